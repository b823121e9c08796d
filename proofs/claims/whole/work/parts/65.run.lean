-- run
set_option maxRecDepth 100000 in
theorem k61_56b {g : sm_G} {Fi : sm_F} {Q : Option Value → sm_M → Prop} {x1 : Int32} {M : sm_M} (hF : ∀ below args s t, MQ below (sm_Qc g Q) args s 0 0 (sm_A g) t → Fi below args s t) (h : (sm_S1 g 36 [.ref 31, .ref 1] M (fun o1 M1 => sm_ov (Q (some (.int (M1.1 31 3))) M1) o1))) : sm_Go g 61 Fi 56 [.ref 0, .int x1] [.ref 1, .ref 31] M := by
  exact sm_ok (S := sm_S1 g) (G := sm_Go g 61 Fi) sm_S1_ok hF (fun _ _ _ _ h => h) 5 56 _ _ _ h
section
variable {g : sm_G} {M : sm_M}
/-- both machines on the same lines -/
theorem run_both (h : INV M) {c n : Nat} {x b : Int} (hc : c = 1 ∨ c = 3) (hn : n ≤ 48) (hcn : M.1 c 1 = Int32.ofInt (n : Int)) {L : Int → Int → Int} (hL : Ln n (cd_l M c) L) (hR : Ln n (rf_L M b) L) (ho : ∀ i : Nat, i < n → mw_ok (L i)) (hx : (x = 0 ∧ b = 0 ∧ (n : Int) = (M.1 35 6).toInt) ∨ (x = 1 ∧ b = 16 ∧ (n : Int) = (M.1 35 7).toInt ∧ ¬ M.1 35 24 = 0)) {M1 : sm_M} (hM1 : ∃ M2, mw_is M M2 (mw_fin M c).2 ∧ M1 = sm_sI M2 31 4 (sm_z (decide (cd_n M c ≤ (mw_fin M c).1)))) :
    i_ret g 117 [.int (Int32.ofInt x)] (some (.int (M1.1 31 3))) M1 := by
  have h' := h
  obtain ⟨ns, Ls, ⟨s1, s2, s3, s4, s5, s6⟩, r, m1, m2, m3, m4, m5⟩ := h
  obtain ⟨M2, ⟨g1, g2, g3, g4⟩, hM1⟩ := hM1
  have cn : cd_n M c = (n : Int) := by unfold cd_n; rw [hcn, jn_to (by omega) (by omega)]
  have mp : ∀ p, p ≠ 31 → p ≠ 32 → p ≠ 33 → p ≠ 34 → M1.1 p = M.1 p := fun p x1 x2 x3 x4 => by rw [hM1, sI_1 x1]; exact g3 p x1 x2 x3 x4
  have eL : rf_L M1 b = rf_L M b ∨ True := Or.inr trivial
  have hR1 : Ln n (rf_L M1 b) L := rL_c hR (mp 36 (by decide) (by decide) (by decide) (by decide)) (mp 37 (by decide) (by decide) (by decide) (by decide)) (mp 38 (by decide) (by decide) (by decide) (by decide)) (mp 39 (by decide) (by decide) (by decide) (by decide)) (mp 40 (by decide) (by decide) (by decide) (by decide))
  have e35 : M1.1 35 = M.1 35 := mp 35 (by decide) (by decide) (by decide) (by decide)
  have okr : ∀ i : Int, 0 ≤ i → i < (n : Int) → mw_ok (rf_L M1 b i) := fun i i1 i2 => by
    have := mw_ok_c (hR1 i.toNat (by omega)) (ho i.toNat (by omega))
    rwa [show ((i.toNat : Nat) : Int) = i by omega] at this
  have hx1 : (x = 0 ∧ b = 0 ∧ (n : Int) = (M1.1 35 6).toInt) ∨ (x = 1 ∧ b = 16 ∧ (n : Int) = (M1.1 35 7).toInt ∧ ¬ M1.1 35 24 = 0) := by rw [e35]; exact hx
  -- the two ends
  have t0 : mt_eq (fl_n (M.1 32) 10 (Int32.ofInt 0), fl_n (M.1 33) 10 (Int32.ofInt 0), M.1 34, Int32.ofInt 0) (fl_n (M1.1 56) 10 (Int32.ofInt 0), fl_n (M1.1 57) 10 (Int32.ofInt 0), M1.1 58, Int32.ofInt 0) := by
    refine ⟨fun j hj => ?_, fun j hj => ?_, fun j hj => ?_, rfl⟩
    · show fl_n (M.1 32) 10 (Int32.ofInt 0) j = fl_n (M1.1 56) 10 (Int32.ofInt 0) j
      rw [fl_n, fl_n, if_pos hj, if_pos hj]
    · show fl_n (M.1 33) 10 (Int32.ofInt 0) j = fl_n (M1.1 57) 10 (Int32.ofInt 0) j
      rw [fl_n, fl_n, if_pos hj, if_pos hj]
    · show M.1 34 j = M1.1 58 j
      rw [mp 58 (by decide) (by decide) (by decide) (by decide)]; exact m5 j hj
  have hLL : Ln n (cd_l M c) (rf_L M1 b) := Ln_t hL (Ln_s hR1)
  obtain ⟨E1, E2⟩ := mt_run hLL (fun i hi => mw_ok_c (hR1 i hi) (ho i hi)) 9849 0 0 _ _ (by omega) t0
  have F1 : (mw_fin M c).1 = (rw_fin M1 b n).1 := by unfold mw_fin rw_fin; rw [cn]; exact E1
  have F2 : mt_eq (mw_fin M c).2 (rw_fin M1 b n).2 := by unfold mw_fin rw_fin; rw [cn]; exact E2
  have pos : 0 ≤ (mw_fin M c).2.2.2.2.toInt := by
    unfold mw_fin
    exact mw_pos 9849 0 0 _ (by omega) ⟨by show 0 ≤ (Int32.ofInt 0).toInt; decide, by show (Int32.ofInt 0).toInt + _ < _; decide⟩
  have a3 : M1.1 31 3 = (mw_fin M c).2.2.2.2 := by rw [hM1, sI_s, pk_un (by decide), ← g1]; rfl
  have a4 : M1.1 31 4 = sm_z (decide ((n : Int) ≤ (mw_fin M c).1)) := by rw [hM1, sI_s, pk_us, cn]
  have a34 : M1.1 34 = (mw_fin M c).2.2.2.1 := by rw [hM1, sI_1 (by decide), ← g1]; rfl
  refine ⟨_, rfl, sm_Sm_mono (c_rrunC hx1 (by omega) okr) (fun o M3 h3 => ?_)⟩
  obtain ⟨ho3, M4, ⟨k1, k2, k3, k4⟩, hM3⟩ := h3
  have q35 : ∀ i, i ≠ 0 → i ≠ 33 → i ≠ 34 → M3.1 35 i = M.1 35 i := fun i x1 x2 x3 => by rw [hM3, sI_s, pk_un x3, k2 i x2, sI_s, pk_un x1, e35]
  have qp : ∀ p, p ≠ 35 → p ≠ 56 → p ≠ 57 → p ≠ 58 → M3.1 p = M1.1 p := fun p x1 x2 x3 x4 => by rw [hM3, sI_1 x1, k3 p x1 x2 x3 x4, sI_1 x1]
  have b33 : M3.1 35 33 = (rw_fin M1 b n).2.2.2.2 := by rw [hM3, sI_s, pk_un (by decide), ← k1]; rfl
  have b34 : M3.1 35 34 = sm_z (decide ((n : Int) ≤ (rw_fin M1 b n).1)) := by rw [hM3, sI_s, pk_us]
  have b58 : M3.1 58 = (rw_fin M1 b n).2.2.2.1 := by rw [hM3, sI_1 (by decide), ← k1]; rfl
  have b0 : M3.1 35 0 = Int32.ofInt 0 := by rw [hM3, sI_s, pk_un (by decide), k2 0 (by decide), sI_s, pk_us]
  refine ⟨by rw [ho3, a3, F2.2.2.2], b0, ns, Ls, ⟨s1, ?_, ?_, ?_, ?_, s6⟩, ?_, ⟨?_, ?_, ?_, ?_, fun t ht => ?_⟩⟩
  · rw [qp 1 (by decide) (by decide) (by decide) (by decide), mp 1 (by decide) (by decide) (by decide) (by decide)]; exact s2
  · rw [q35 6 (by decide) (by decide) (by decide)]; exact s3
  · rw [cd_lc (qp 2 (by decide) (by decide) (by decide) (by decide)), cd_lc (mp 2 (by decide) (by decide) (by decide) (by decide))]; exact s4
  · exact rL_c s5 (by rw [qp 36 (by decide) (by decide) (by decide) (by decide), mp 36 (by decide) (by decide) (by decide) (by decide)]) (by rw [qp 37 (by decide) (by decide) (by decide) (by decide), mp 37 (by decide) (by decide) (by decide) (by decide)]) (by rw [qp 38 (by decide) (by decide) (by decide) (by decide), mp 38 (by decide) (by decide) (by decide) (by decide)]) (by rw [qp 39 (by decide) (by decide) (by decide) (by decide), mp 39 (by decide) (by decide) (by decide) (by decide)]) (by rw [qp 40 (by decide) (by decide) (by decide) (by decide), mp 40 (by decide) (by decide) (by decide) (by decide)])
  · rcases r with ⟨q1, q2⟩ | ⟨q1, q2, n2, k, L2, a1, a2, a3, a4, a5, a6, a7, a8, a9, a10⟩
    · exact Or.inl ⟨by rw [qp 0 (by decide) (by decide) (by decide) (by decide), mp 0 (by decide) (by decide) (by decide) (by decide)]; exact q1, by rw [q35 24 (by decide) (by decide) (by decide)]; exact q2⟩
    · refine Or.inr ⟨by rw [qp 0 (by decide) (by decide) (by decide) (by decide), mp 0 (by decide) (by decide) (by decide) (by decide)]; exact q1, by rw [q35 24 (by decide) (by decide) (by decide)]; exact q2, n2, k, L2, a1, ?_, ?_, ?_, ?_, a6, ?_, ?_, ?_, ?_⟩
      · rw [qp 3 (by decide) (by decide) (by decide) (by decide), mp 3 (by decide) (by decide) (by decide) (by decide)]; exact a2
      · rw [q35 7 (by decide) (by decide) (by decide)]; exact a3
      · rw [cd_lc (qp 4 (by decide) (by decide) (by decide) (by decide)), cd_lc (mp 4 (by decide) (by decide) (by decide) (by decide))]; exact a4
      · exact rL_c a5 (by rw [qp 36 (by decide) (by decide) (by decide) (by decide), mp 36 (by decide) (by decide) (by decide) (by decide)]) (by rw [qp 37 (by decide) (by decide) (by decide) (by decide), mp 37 (by decide) (by decide) (by decide) (by decide)]) (by rw [qp 38 (by decide) (by decide) (by decide) (by decide), mp 38 (by decide) (by decide) (by decide) (by decide)]) (by rw [qp 39 (by decide) (by decide) (by decide) (by decide), mp 39 (by decide) (by decide) (by decide) (by decide)]) (by rw [qp 40 (by decide) (by decide) (by decide) (by decide), mp 40 (by decide) (by decide) (by decide) (by decide)])
      · rw [qp 8 (by decide) (by decide) (by decide) (by decide), mp 8 (by decide) (by decide) (by decide) (by decide)]; exact a7
      · rw [q35 23 (by decide) (by decide) (by decide)]; exact a8
      · rw [qp 20 (by decide) (by decide) (by decide) (by decide), mp 20 (by decide) (by decide) (by decide) (by decide), q35 22 (by decide) (by decide) (by decide)]; exact a9
      · rw [qp 12 (by decide) (by decide) (by decide) (by decide), mp 12 (by decide) (by decide) (by decide) (by decide), q35 20 (by decide) (by decide) (by decide)]; exact a10
  · rw [qp 31 (by decide) (by decide) (by decide) (by decide), a3, b33, F2.2.2.2]
  · rw [qp 31 (by decide) (by decide) (by decide) (by decide), a3]; exact pos
  · rw [qp 31 (by decide) (by decide) (by decide) (by decide), a4, b34, F1]
  · rw [qp 31 (by decide) (by decide) (by decide) (by decide), a4]; exact sm_zb _
  · rw [qp 34 (by decide) (by decide) (by decide) (by decide), a34, b58]; exact F2.2.2.1 t ht
theorem q_run (h : INV M) {x1 : Int32} {Fi : sm_F} (hF : ∀ below args s t, MQ below (sm_Qc g (i_ret g 117 [.int x1])) args s 0 0 (sm_A g) t → Fi below args s t)
    (t1 : i_thr g 117 [.int x1] M 1 → sm_Go g 61 Fi 9 [.ref 0, .int x1] [] M) (t2 : i_thr g 117 [.int x1] M 2 → sm_Go g 61 Fi 29 [.ref 0, .int x1] [] M) : sm_Go g 61 Fi 0 [.ref 0, .int x1] [] M := by
  have h' := h
  obtain ⟨ns, Ls, ⟨s1, s2, s3, s4, s5, s6⟩, r, m⟩ := h
  have e1 : x1 = Int32.ofInt x1.toInt := (jn_self x1).symm
  have r1 : -2147483648 ≤ x1.toInt ∧ x1.toInt < 2147483648 := ⟨x1.le_toInt, x1.toInt_lt⟩
  generalize x1.toInt = a at *
  subst e1
  have ta : (Int32.ofInt a).toInt = a := jn_to r1.1 r1.2
  have c0 : Int32.ofInt a = (0 : Int32) ↔ a = 0 := by rw [jn_0, jn_eq (by omega) (by omega) (by omega) (by omega)]
  have c1 : Int32.ofInt a = Int32.ofInt 1 ↔ a = 1 := jn_eq (by omega) (by omega) (by omega) (by omega)
  refine k61_0 hF ?_
  rw [c0, c1]
  -- the source
  have src : a = 0 → sm_Go g 61 Fi 17 [.ref 0, .int (Int32.ofInt a)] [] M := fun e => by
    refine k61_17 hF ?_
    rw [c1]
    refine ⟨fun _ => k61_37 hF ?_, fun q => by omega⟩
    rw [c0]
    refine ⟨fun q => absurd e q, fun _ => k61_56b hF ?_⟩
    have cn : cd_n M 1 = (ns : Int) := by unfold cd_n; rw [s2, jn_to (by omega) (by omega)]
    have okc : ∀ i : Int, 0 ≤ i → i < cd_n M 1 → mw_ok (cd_l M 1 i) := fun i i1 i2 => by
      rw [cn] at i2
      have := mw_ok_c (s4 i.toNat (by omega)) (sok_mw (s6 i.toNat (by omega)).1)
      rwa [show ((i.toNat : Nat) : Int) = i by omega] at this
    refine sm_Sm_mono (c_execute (c := 1) (by omega) (by omega) okc) (fun o M1 h1 => ?_)
    obtain ⟨rfl, h1⟩ := h1
    have RB := run_both (g := g) h' (c := 1) (n := ns) (x := 0) (b := 0) (by omega) (by omega) s2 s4 s5 (fun i hi => sok_mw (s6 i hi).1) (Or.inl ⟨rfl, rfl, by rw [s3, jn_to (by omega) (by omega)]⟩) h1
    rw [← e] at RB
    exact RB
  refine ⟨fun q => src q, fun q => ⟨fun q2 => ?_, fun q2 => t1 (sm_Sm_mono (c_rrunA (x := Int32.ofInt a) (by rw [ta]; omega)) (fun o M2 h2 => ?_))⟩⟩
  · subst q2
    refine k61_17 hF ⟨fun q => absurd rfl q, fun _ => ?_⟩
    rcases r with ⟨q1, q2⟩ | ⟨q1, q2, n, k, L, a1, a2, a3, a4, a5, a6, a7, a8, a9, a10⟩
    · rw [q1]
      refine ⟨fun q => absurd rfl q, fun _ => t2 (sm_Sm_mono (c_rrunB (by rw [q2]; rfl)) (fun o M2 h2 => ?_))⟩
      rw [h2.2]
      exact ⟨⟨_, h2.1⟩, by rw [sI_s, pk_us], INV_0 h' _⟩
    · rw [q1]
      refine ⟨fun _ => k61_37 hF ⟨fun _ => k61_56 hF ?_, fun q => absurd q z01⟩, fun q => absurd q z01⟩
      have cn : cd_n M 3 = (n : Int) := by unfold cd_n; rw [a2, jn_to (by omega) (by omega)]
      have okc : ∀ i : Int, 0 ≤ i → i < cd_n M 3 → mw_ok (cd_l M 3 i) := fun i i1 i2 => by
        rw [cn] at i2
        have := mw_ok_c (a4 i.toNat (by omega)) (rok_mw a1.2.2 (a6 i.toNat (by omega)))
        rwa [show ((i.toNat : Nat) : Int) = i by omega] at this
      refine sm_Sm_mono (c_execute (c := 3) (by omega) (by omega) okc) (fun o M1 h1 => ?_)
      obtain ⟨rfl, h1⟩ := h1
      exact run_both (g := g) h' (c := 3) (n := n) (x := 1) (b := 16) (by omega) (by omega) a2 a4 a5 (fun i hi => rok_mw a1.2.2 (a6 i hi)) (Or.inr ⟨rfl, rfl, by rw [a3, jn_to (by omega) (by omega)], by rw [q2]; exact z01⟩) h1
  · rw [h2.2]
    exact ⟨⟨_, h2.1⟩, by rw [sI_s, pk_us], INV_0 h' _⟩
end
