-- the reference rewrites a line
section
variable {g : sm_G} {M : sm_M}
def st_M (M : sm_M) (a : Nat) (x0 x1 x2 x3 x4 : Int32) : sm_M := sm_sI (sm_sI (sm_sI (sm_sI (sm_sI M 36 a x0) 37 a x1) 38 a x2) 39 a x3) 40 a x4
theorem c_set {a : Int} (ha : 0 ≤ a ∧ a < 112) {x0 x1 x2 x3 x4 : Int32} : sm_Sm g 81 [.ref 35, .int (Int32.ofInt a), .int x0, .int x1, .int x2, .int x3, .int x4] M (fun o M' => o = none ∧ M' = st_M M a.toNat x0 x1 x2 x3 x4) := by
  have ia : vp_in (Int32.ofInt a) 112 := by rw [jn_in (by omega) (by omega)]; omega
  refine sm_entry (Nat.le_of_ble_eq_true rfl) (Nat.le_of_ble_eq_true rfl) ?_
  refine k81_0 (fun _ _ _ _ h => h) ?_
  rw [jn_cl (by omega) (by omega)]
  exact ⟨ia, ia, ia, ia, ia, rfl, rfl⟩
theorem st_o {a : Nat} {x0 x1 x2 x3 x4 : Int32} {p : Nat} (hp : p < 36 ∨ 40 < p) : (st_M M a x0 x1 x2 x3 x4).1 p = M.1 p := by
  unfold st_M
  rw [sI_1 (by omega), sI_1 (by omega), sI_1 (by omega), sI_1 (by omega), sI_1 (by omega)]
theorem st_at {a : Nat} {x0 x1 x2 x3 x4 : Int32} : (st_M M a x0 x1 x2 x3 x4).1 36 = upd (M.1 36) a x0 ∧ (st_M M a x0 x1 x2 x3 x4).1 37 = upd (M.1 37) a x1 ∧ (st_M M a x0 x1 x2 x3 x4).1 38 = upd (M.1 38) a x2 ∧ (st_M M a x0 x1 x2 x3 x4).1 39 = upd (M.1 39) a x3 ∧ (st_M M a x0 x1 x2 x3 x4).1 40 = upd (M.1 40) a x4 := by
  unfold st_M
  refine ⟨?_, ?_, ?_, ?_, ?_⟩
  · rw [sI_1 (by decide), sI_1 (by decide), sI_1 (by decide), sI_1 (by decide), sI_s]
  · rw [sI_1 (by decide), sI_1 (by decide), sI_1 (by decide), sI_s, sI_1 (by decide)]
  · rw [sI_1 (by decide), sI_1 (by decide), sI_s, sI_1 (by decide), sI_1 (by decide)]
  · rw [sI_1 (by decide), sI_s, sI_1 (by decide), sI_1 (by decide), sI_1 (by decide)]
  · rw [sI_s, sI_1 (by decide), sI_1 (by decide), sI_1 (by decide), sI_1 (by decide)]
theorem st_n {a i j : Nat} {x0 x1 x2 x3 x4 : Int32} (hj : j < 5) (hi : i ≠ a) : (st_M M a x0 x1 x2 x3 x4).1 (36 + j) i = M.1 (36 + j) i := by
  obtain ⟨h0, h1, h2, h3, h4⟩ := @st_at M a x0 x1 x2 x3 x4
  have hj5 : j = 0 ∨ j = 1 ∨ j = 2 ∨ j = 3 ∨ j = 4 := by omega
  rcases hj5 with e | e | e | e | e <;> subst e
  · show (st_M M a x0 x1 x2 x3 x4).1 36 i = _; rw [h0, pk_un hi]
  · show (st_M M a x0 x1 x2 x3 x4).1 37 i = _; rw [h1, pk_un hi]
  · show (st_M M a x0 x1 x2 x3 x4).1 38 i = _; rw [h2, pk_un hi]
  · show (st_M M a x0 x1 x2 x3 x4).1 39 i = _; rw [h3, pk_un hi]
  · show (st_M M a x0 x1 x2 x3 x4).1 40 i = _; rw [h4, pk_un hi]
theorem st_s {a j : Nat} {x0 x1 x2 x3 x4 : Int32} (hj : j < 5) : ((st_M M a x0 x1 x2 x3 x4).1 (36 + j) a).toInt = mkl x0.toInt x1.toInt x2.toInt x3.toInt x4.toInt (j : Int) := by
  obtain ⟨h0, h1, h2, h3, h4⟩ := @st_at M a x0 x1 x2 x3 x4
  have hj5 : j = 0 ∨ j = 1 ∨ j = 2 ∨ j = 3 ∨ j = 4 := by omega
  rcases hj5 with e | e | e | e | e <;> subst e
  · show ((st_M M a x0 x1 x2 x3 x4).1 36 a).toInt = _; rw [h0, pk_us]; rfl
  · show ((st_M M a x0 x1 x2 x3 x4).1 37 a).toInt = _; rw [h1, pk_us]; rfl
  · show ((st_M M a x0 x1 x2 x3 x4).1 38 a).toInt = _; rw [h2, pk_us]; rfl
  · show ((st_M M a x0 x1 x2 x3 x4).1 39 a).toInt = _; rw [h3, pk_us]; rfl
  · show ((st_M M a x0 x1 x2 x3 x4).1 40 a).toInt = _; rw [h4, pk_us]; rfl
def wr_in (t : wT) : Prop := t.1 ≤ 48 ∧ t.2.2 ≤ 60
def wr_fr (M0 M : sm_M) : Prop := (∀ p, (p < 35 ∨ 40 < p) → p ≠ 52 → M.1 p = M0.1 p) ∧ (∀ i, i ≠ 8 → i ≠ 21 → i ≠ 26 → M.1 35 i = M0.1 35 i) ∧ (∀ j, j < 5 → ∀ i, i < 64 → M.1 (36 + j) i = M0.1 (36 + j) i) ∧ M.2 = M0.2
def wr_is (M0 M : sm_M) (t : wT) : Prop := wr_fr M0 M ∧ 0 ≤ t.2.2 ∧ (0 ≤ (M.1 35 8).toInt ∧ (M.1 35 8).toInt ≤ 48) ∧ (0 ≤ (M.1 35 21).toInt ∧ (M.1 35 21).toInt ≤ 60) ∧
  (wr_in t → M.1 35 8 = Int32.ofInt (t.1 : Int) ∧ M.1 35 21 = Int32.ofInt t.2.2 ∧ M.1 35 26 = Int32.ofInt 1 ∧ ∀ i : Nat, i < t.1 → ∀ j : Nat, j < 5 → (M.1 (36 + j) (64 + i)).toInt = t.2.1 i (j : Int)) ∧ (¬ wr_in t → M.1 35 26 = Int32.ofInt 0)
theorem wi_ap {t : wT} {l : Int → Int} (h : wr_in (w_ap t l)) : wr_in t := by
  have h : t.1 + 1 ≤ 48 ∧ t.2.2 ≤ 60 := h
  exact ⟨by omega, h.2⟩
theorem wi_nv {t : wT} (h : wr_in (w_nv t)) : wr_in t := by
  have h : t.1 ≤ 48 ∧ t.2.2 + 1 ≤ 60 := h
  exact ⟨h.1, by omega⟩
theorem wi_ld {sv : Nat → Int} {l : Int → Int} {j : Int} {t : wT} (h : wr_in (w_ld sv l j t)) : wr_in t := by
  unfold w_ld at h
  split at h
  · exact h
  · exact wi_nv (wi_ap h)
theorem c_write {M0 : sm_M} {t : wT} (h : wr_is M0 M t) {x0 x1 x2 x3 x4 : Int32} {l : Int → Int} (hl : wr_in (w_ap t l) → ∀ j : Nat, j < 5 → mkl x0.toInt x1.toInt x2.toInt x3.toInt x4.toInt (j : Int) = l (j : Int)) : sm_Sm g 99 [.ref 35, .int x0, .int x1, .int x2, .int x3, .int x4] M (fun o M' => o = none ∧ wr_is M0 M' (w_ap t l) ∧ M'.1 52 = M.1 52) := by
  obtain ⟨⟨f1, f2, f3, f4⟩, v0, r8, r21, hin, hout⟩ := h
  have e8 : M.1 35 8 = Int32.ofInt (M.1 35 8).toInt := (jn_self _).symm
  refine sm_entry (Nat.le_of_ble_eq_true rfl) (Nat.le_of_ble_eq_true rfl) ?_
  refine k99_0 (fun _ _ _ _ h => h) ⟨fun q => ?_, fun q => ?_⟩
  · generalize hw : (M.1 35 8).toInt = w at *
    have q : w < 48 := by
      rw [e8, jn_eq (by omega) (by omega) (by omega) (by omega)] at q; omega
    rw [e8, jn_add]
    refine sm_Sm_mono (c_set (a := 64 + w) (by omega)) (fun o M1 h1 => ?_)
    obtain ⟨rfl, rfl⟩ := h1
    have e64 : (64 + w).toNat = 64 + w.toNat := by omega
    rw [st_o (by omega), e8, jn_add, e64]
    refine ⟨rfl, ⟨⟨fun p p1 p2 => ?_, fun i i1 i2 i3 => ?_, fun j hj i hi => ?_, f4⟩, v0, ?_, ?_, fun hi => ?_, fun hi => ?_⟩, ?_⟩
    · rw [sI_1 (by omega), st_o (by omega)]; exact f1 p p1 p2
    · rw [sI_s, pk_un i1, st_o (by omega)]; exact f2 i i1 i2 i3
    · rw [sI_1 (by omega), st_n hj (by omega)]; exact f3 j hj i hi
    · rw [sI_s, pk_us, jn_to (by omega) (by omega)]; omega
    · rw [sI_s, pk_un (by decide), st_o (by omega)]; exact r21
    · obtain ⟨a1, a2, a3, a4⟩ := hin (wi_ap hi)
      have ew : w = (t.1 : Int) := by
        rw [e8, jn_eq (by omega) (by omega) (by omega) (by have := hi.1; have : t.1 + 1 ≤ 48 := this; omega)] at a1; exact a1
      refine ⟨?_, ?_, ?_, fun i hi2 j hj => ?_⟩
      · rw [sI_s, pk_us, ew]; rfl
      · rw [sI_s, pk_un (by decide), st_o (by omega)]; exact a2
      · rw [sI_s, pk_un (by decide), st_o (by omega)]; exact a3
      · have hi2 : i < t.1 + 1 := hi2
        rw [sI_1 (by omega)]
        show _ = (if i = t.1 then l else t.2.1 i) (j : Int)
        by_cases e : i = t.1
        · rw [if_pos e, show 64 + i = 64 + w.toNat by omega, st_s hj]
          exact hl hi j hj
        · rw [if_neg e, st_n hj (by omega)]; exact a4 i (by omega) j hj
    · rw [sI_s, pk_un (by decide), st_o (by omega)]
      refine hout (fun z => hi ⟨?_, z.2⟩)
      have a1 := (hin z).1
      have := z.1
      rw [e8, jn_eq (by omega) (by omega) (by omega) (by omega)] at a1
      show t.1 + 1 ≤ 48; omega
    · rw [sI_1 (by decide), st_o (by omega)]
  · refine ⟨Or.inl rfl, rfl, ⟨⟨fun p p1 p2 => ?_, fun i i1 i2 i3 => ?_, fun j hj i hi => ?_, f4⟩, v0, ?_, ?_, fun hi => ?_, fun hi => ?_⟩, ?_⟩
    · rw [sI_1 (by omega)]; exact f1 p p1 p2
    · rw [sI_s, pk_un i3]; exact f2 i i1 i2 i3
    · rw [sI_1 (by omega)]; exact f3 j hj i hi
    · rw [sI_s, pk_un (by decide)]; exact r8
    · rw [sI_s, pk_un (by decide)]; exact r21
    · have a1 := (hin (wi_ap hi)).1
      have h1 : t.1 + 1 ≤ 48 := hi.1
      rw [q, jn_eq (by omega) (by omega) (by omega) (by omega)] at a1
      omega
    · rw [sI_s, pk_us]
    · rw [sI_1 (by decide)]
theorem c_temporary {M0 : sm_M} {t : wT} (h : wr_is M0 M t) : sm_Sm g 100 [.ref 35] M (fun o M' => wr_is M0 M' (w_nv t) ∧ M'.1 52 = M.1 52 ∧ ∃ r, o = some (.int r) ∧ (wr_in (w_nv t) → r = Int32.ofInt t.2.2)) := by
  obtain ⟨⟨f1, f2, f3, f4⟩, v0, r8, r21, hin, hout⟩ := h
  have e21 : M.1 35 21 = Int32.ofInt (M.1 35 21).toInt := (jn_self _).symm
  refine sm_entry (Nat.le_of_ble_eq_true rfl) (Nat.le_of_ble_eq_true rfl) ?_
  refine k100_0 (fun _ _ _ _ h => h) ⟨fun q => ?_, fun q => ?_⟩
  · generalize hw : (M.1 35 21).toInt = w at *
    have q : w < 60 := by
      rw [e21, jn_eq (by omega) (by omega) (by omega) (by omega)] at q; omega
    rw [pk_us, e21, jn_add, jn_sub, show w + 1 - 1 = w by omega]
    have eqw : wr_in t → w = t.2.2 := fun z => by
      have a2 := (hin z).2.1
      have := z.2
      rw [e21, jn_eq (by omega) (by omega) (by omega) (by omega)] at a2; exact a2
    refine ⟨⟨⟨fun p p1 p2 => ?_, fun i i1 i2 i3 => ?_, fun j hj i hi => ?_, f4⟩, (by show 0 ≤ t.2.2 + 1; omega), ?_, ?_, fun hi => ?_, fun hi => ?_⟩, ?_, _, rfl, fun hi => ?_⟩
    · rw [sI_1 (by omega)]; exact f1 p p1 p2
    · rw [sI_s, pk_un i2]; exact f2 i i1 i2 i3
    · rw [sI_1 (by omega)]; exact f3 j hj i hi
    · rw [sI_s, pk_un (by decide)]; exact r8
    · rw [sI_s, pk_us, jn_to (by omega) (by omega)]; omega
    · obtain ⟨a1, a2, a3, a4⟩ := hin (wi_nv hi)
      refine ⟨?_, ?_, ?_, fun i hi2 j hj => ?_⟩
      · rw [sI_s, pk_un (by decide)]; exact a1
      · rw [sI_s, pk_us, eqw (wi_nv hi)]; rfl
      · rw [sI_s, pk_un (by decide)]; exact a3
      · rw [sI_1 (by omega)]; exact a4 i hi2 j hj
    · rw [sI_s, pk_un (by decide)]
      refine hout (fun z => hi ⟨z.1, ?_⟩)
      have := eqw z
      show t.2.2 + 1 ≤ 60; omega
    · rw [sI_1 (by decide)]
    · rw [eqw (wi_nv hi)]
  · refine ⟨Or.inl rfl, ⟨⟨fun p p1 p2 => ?_, fun i i1 i2 i3 => ?_, fun j hj i hi => ?_, f4⟩, (by show 0 ≤ t.2.2 + 1; omega), ?_, ?_, fun hi => ?_, fun hi => ?_⟩, ?_, _, rfl, fun hi => ?_⟩
    · rw [sI_1 (by omega)]; exact f1 p p1 p2
    · rw [sI_s, pk_un i3]; exact f2 i i1 i2 i3
    · rw [sI_1 (by omega)]; exact f3 j hj i hi
    · rw [sI_s, pk_un (by decide)]; exact r8
    · rw [sI_s, pk_un (by decide)]; exact r21
    · have a1 := (hin (wi_nv hi)).2.1
      have h1 : t.2.2 + 1 ≤ 60 := hi.2
      rw [q, jn_eq (by omega) (by omega) (by omega) (by omega)] at a1
      omega
    · rw [sI_s, pk_us]
    · rw [sI_1 (by decide)]
    · have a1 := (hin (wi_nv hi)).2.1
      have h1 : t.2.2 + 1 ≤ 60 := hi.2
      rw [q, jn_eq (by omega) (by omega) (by omega) (by omega)] at a1
      omega
/-- the slots as the reference keeps them -/
def rs_ok (M0 : sm_M) (lr sv : Nat → Int) : Prop := ∀ v, v < 60 → (0 ≤ lr v ∧ lr v < 60) ∧ M0.1 45 v = Int32.ofInt (lr v) ∧ M0.1 50 (lr v).toNat = sm_z (decide (¬ sv v = -1)) ∧ (¬ sv v = -1 → M0.1 51 (lr v).toNat = Int32.ofInt (sv v)) ∧ (-1 ≤ sv v ∧ sv v < 100)
theorem c_load {M0 : sm_M} {t : wT} (h : wr_is M0 M t) {lr sv : Nat → Int} (hs : rs_ok M0 lr sv) {v : Nat} (hv : v < 60) (hn : ¬ sv v = -1) : sm_Sm g 101 [.ref 35, .int (Int32.ofInt (v : Int))] M (fun o M' => wr_is M0 M' (w_ap (w_nv t) (mkl 8 t.2.2 (sv v) 0 (-1))) ∧ M'.1 52 = M.1 52 ∧ ∃ r, o = some (.int r) ∧ (wr_in (w_nv t) → r = Int32.ofInt t.2.2)) := by
  obtain ⟨s1, s2, s3, s4, s5⟩ := hs v hv
  have v0 := h.2.1
  refine sm_entry (Nat.le_of_ble_eq_true rfl) (Nat.le_of_ble_eq_true rfl) ?_
  refine k101_0 (fun _ _ _ _ h => h) ?_
  refine sm_Sm_mono (c_temporary h) (fun o M1 h1 => ?_)
  obtain ⟨h1, k1, r, rfl, hr⟩ := h1
  have e45 : M1.1 45 = M0.1 45 := h1.1.1 45 (by omega) (by decide)
  have e51 : M1.1 51 = M0.1 51 := h1.1.1 51 (by omega) (by decide)
  show vp_in _ 60 ∧ _
  rw [show (Int32.ofInt (v : Int)).toNatClampNeg = v by rw [jn_cl (by omega) (by omega)]; omega, e45, s2, e51, jn_cl (a := lr v) (by omega) (by omega), s4 hn]
  refine ⟨by rw [jn_in (by omega) (by omega)]; omega, by rw [jn_in (by omega) (by omega)]; omega, sm_Sm_mono (c_write h1 (l := mkl 8 t.2.2 (sv v) 0 (-1)) (fun hi j hj => ?_)) (fun o M2 h2 => ?_)⟩
  · have hi := wi_ap hi
    have h60 : t.2.2 + 1 ≤ 60 := hi.2
    exact mkl_c rfl (by rw [hr hi, jn_to (by omega) (by omega)]) (by rw [jn_to (by omega) (by omega)]) rfl rfl _
  · obtain ⟨rfl, h2, k2⟩ := h2
    exact ⟨h2, by rw [k2, k1], r, rfl, hr⟩
theorem rf_t {i : Nat} {j : Nat} {M0 : sm_M} (h : wr_fr M0 M) (hj : j < 5) (hi : i < 48) : M.1 (36 + j) (16 + i) = Int32.ofInt (rf_L M0 16 i j) := by
  rw [h.2.2.1 j hj (16 + i) (by omega)]
  unfold rf_L rf_l
  rw [jn_self, show (16 + (i : Int)).toNat = 16 + i by omega, show ((j : Nat) : Int).toNat = j by omega]
theorem w_ld_y {sv : Nat → Int} {l : Int → Int} {j : Int} {t : wT} (e : sl_at sv l j = -1) : w_ld sv l j t = t := by unfold w_ld; rw [if_pos e]
theorem w_ld_z {sv : Nat → Int} {l : Int → Int} {j : Int} {t : wT} (e : ¬ sl_at sv l j = -1) : w_ld sv l j t = w_ap (w_nv t) (mkl 8 t.2.2 (sl_at sv l j) 0 (-1)) := by unfold w_ld; rw [if_neg e]
theorem w_lv_y {sv : Nat → Int} {l : Int → Int} {j : Int} {t : wT} (e : sl_at sv l j = -1) : w_lv sv l j t = l j := by unfold w_lv; rw [if_pos e]
theorem w_lv_z {sv : Nat → Int} {l : Int → Int} {j : Int} {t : wT} (e : ¬ sl_at sv l j = -1) : w_lv sv l j t = t.2.2 := by unfold w_lv; rw [if_neg e]
theorem c_rwLine {M0 : sm_M} {t : wT} (h : wr_is M0 M t) {lr sv : Nat → Int} (hs : rs_ok M0 lr sv) {i : Nat} (hi : i < 48) (hk : lv_ok (rf_L M0 16 i)) (h9 : rf_L M0 16 i 0 = 9 → sv (rf_L M0 16 i 1).toNat = -1) :
    sm_Sm g 102 [.ref 35, .int (Int32.ofInt (16 + (i : Int)))] M (fun o M' => o = none ∧ wr_is M0 M' (w_line sv (rf_L M0 16 i) t) ∧ M'.1 52 = M.1 52) := by
  have v0 := h.2.1
  have lr' : ∀ j, -2147483648 ≤ rf_L M0 16 i j ∧ rf_L M0 16 i j < 2147483648 := fun j => by unfold rf_L rf_l; exact ⟨Int32.le_toInt _, Int32.toInt_lt _⟩
  have R : ∀ {M1 : sm_M}, wr_fr M0 M1 → ∀ j, j < 5 → M1.1 (36 + j) (16 + i) = Int32.ofInt (rf_L M0 16 i j) := fun hf j hj => rf_t hf hj hi
  generalize hl : rf_L M0 16 i = l at *
  have ix : vp_in (Int32.ofInt (16 + (i : Int))) 112 := by rw [jn_in (by omega) (by omega)]; omega
  have clx : (Int32.ofInt (16 + (i : Int))).toNatClampNeg = 16 + i := by rw [jn_cl (by omega) (by omega)]; omega
  have to0 : (Int32.ofInt (l 0)).toInt = l 0 := jn_to (lr' 0).1 (lr' 0).2
  generalize hQ : (fun (o : Option Value) (M' : sm_M) => o = none ∧ wr_is M0 M' (w_line sv l t) ∧ M'.1 52 = M.1 52) = Q
  have sl1 : sl_at sv l 1 = if pf_dv (l 0) = true then sv (l 1).toNat else -1 := by
    unfold sl_at
    by_cases e : pf_dv (l 0) = true
    · rw [if_pos e, if_pos]
      rw [pf_hv1 hk.1]
      unfold pf_dv at e
      unfold pf_rD
      simp only [Bool.or_eq_true, decide_eq_true_eq, Bool.and_eq_true] at e ⊢
      omega
    · rw [if_neg e]
      by_cases e2 : pf_hv (l 0) 1 = true
      · rw [if_pos e2]
        apply h9
        rw [pf_hv1 hk.1] at e2
        have := hk.1
        unfold pf_dv at e
        unfold pf_rD at e2
        simp only [Bool.or_eq_true, decide_eq_true_eq, Bool.and_eq_true] at e e2
        omega
      · rw [if_neg e2]
  have dv1 : pf_dv (l 0) = true → pf_hv (l 0) 1 = true := fun e => by
    rw [pf_hv1 hk.1]
    unfold pf_dv at e
    unfold pf_rD
    simp only [Bool.or_eq_true, decide_eq_true_eq, Bool.and_eq_true] at e ⊢
    omega
  -- the line itself
  have f171 : ∀ (M1 : sm_M) (a b d x5 : Int32) (st : Bool), wr_is M0 M1 (w_td sv l t) → M1.1 52 = M.1 52 → (wr_in (w_td sv l t) → a.toInt = w_lv sv l 2 t ∧ b.toInt = w_b sv l t ∧ d.toInt = w_d sv l t) → st = decide (¬ sl_at sv l 1 = -1) → sm_Go g 102 (sm_Fn g Q) 171 [.ref 35, .int (Int32.ofInt (16 + (i : Int))), .int (Int32.ofInt (l 0)), .int a, .int b, .int x5, .int (sm_z st)] [.int d] M1 := by
    intro M1 a b d x5 st hM k1 hv hst
    refine k102_171 (fun _ _ _ _ h => h) ⟨ix, ?_⟩
    have e40 : M1.1 40 (16 + i) = Int32.ofInt (l 4) := R hM.1 4 (by omega)
    rw [clx, e40]
    refine sm_Sm_mono (c_write hM (l := mkl (l 0) (w_d sv l t) (w_lv sv l 2 t) (w_b sv l t) (l 4)) (fun hi j hj => ?_)) (fun o M2 h2 => ?_)
    · obtain ⟨a1, a2, a3⟩ := hv (wi_ap hi)
      exact mkl_c to0 a3 a1 a2 (jn_to (lr' 4).1 (lr' 4).2) _
    · obtain ⟨rfl, h2, k2⟩ := h2
      have wl : w_line sv l t = if sl_at sv l 1 = -1 then w_tl sv l t else w_ap (w_tl sv l t) (mkl 9 (w_d sv l t) (sl_at sv l 1) 0 (-1)) := rfl
      show (_ → _) ∧ (_ → _)
      rw [sm_z0]
      refine ⟨fun q => ?_, fun q => ?_⟩
      · rw [hst, decide_eq_false_iff_not] at q
        have q : sl_at sv l 1 = -1 := Classical.not_not.mp q
        rw [if_pos q] at wl
        rw [← hQ, wl]
        exact ⟨rfl, h2, by rw [k2, k1]⟩
      · rw [Bool.not_eq_false] at q
        rw [hst, decide_eq_true_eq] at q
        have hdv : pf_dv (l 0) = true := by
          cases e : pf_dv (l 0)
          · rw [sl1, e] at q; exact absurd rfl q
          · rfl
        rw [if_neg q] at wl
        have b1 := lv_hv hk (j := 1) (by omega) (dv1 hdv)
        obtain ⟨s1, s2, s3, s4, s5⟩ := hs (l 1).toNat (by omega)
        have es : sl_at sv l 1 = sv (l 1).toNat := by rw [sl1, if_pos hdv]
        rw [es] at q wl
        have e37 : M2.1 37 (16 + i) = Int32.ofInt (l 1) := R h2.1 1 (by omega)
        rw [e37, jn_cl (a := l 1) (by omega) (by omega), h2.1.1 45 (by omega) (by decide), s2, jn_cl (a := lr (l 1).toNat) (by omega) (by omega), h2.1.1 51 (by omega) (by decide), s4 q]
        refine ⟨ix, by rw [jn_in (by omega) (by omega)]; omega, by rw [jn_in (by omega) (by omega)]; omega, sm_Sm_mono (c_write h2 (l := mkl 9 (w_d sv l t) (sv (l 1).toNat) 0 (-1)) (fun hi j hj => ?_)) (fun o M3 h3 => ?_)⟩
        · obtain ⟨a1, a2, a3⟩ := hv (wi_ap (wi_ap hi))
          exact mkl_c rfl a3 (by rw [jn_to (by omega) (by omega)]) rfl rfl _
        · obtain ⟨rfl, h3, k3⟩ := h3
          show Q _ _
          rw [← hQ, wl]
          exact ⟨rfl, h3, by rw [k3, k2, k1]⟩
  -- what it defines
  have f124 : ∀ (M1 : sm_M) (a b : Int32), wr_is M0 M1 (w_tb sv l t) → M1.1 52 = M.1 52 → (wr_in (w_tb sv l t) → a.toInt = w_lv sv l 2 t ∧ b.toInt = w_b sv l t) → sm_Go g 102 (sm_Fn g Q) 124 [.ref 35, .int (Int32.ofInt (16 + (i : Int))), .int (Int32.ofInt (l 0)), .int a, .int b, .int (Int32.ofInt (l 1)), .null] [] M1 := by
    intro M1 a b hM k1 hv
    have f155 : ∀ st : Bool, st = decide (¬ sl_at sv l 1 = -1) → sm_Go g 102 (sm_Fn g Q) 155 [.ref 35, .int (Int32.ofInt (16 + (i : Int))), .int (Int32.ofInt (l 0)), .int a, .int b, .int (Int32.ofInt (l 1)), .null] [.int (sm_z st)] M1 := by
      intro st hst
      refine k102_155 (fun _ _ _ _ h => h) ?_
      rw [sm_z0]
      refine ⟨fun q => ?_, fun q => ?_⟩
      · have q1 : sl_at sv l 1 = -1 := by
          rw [hst, decide_eq_false_iff_not] at q; exact Classical.not_not.mp q
        have e1 : w_td sv l t = w_tb sv l t := by unfold w_td; rw [if_pos q1]
        have e2 : w_d sv l t = l 1 := by unfold w_d; rw [if_pos q1]
        refine f171 M1 a b _ _ st (by rw [e1]; exact hM) k1 (fun z => ?_) hst
        rw [e1] at z
        rw [e2]
        exact ⟨(hv z).1, (hv z).2, jn_to (lr' 1).1 (lr' 1).2⟩
      · rw [Bool.not_eq_false] at q
        have q1 : ¬ sl_at sv l 1 = -1 := by
          rw [hst, decide_eq_true_eq] at q; exact q
        have e1 : w_td sv l t = w_nv (w_tb sv l t) := by unfold w_td; rw [if_neg q1]
        have e2 : w_d sv l t = (w_tb sv l t).2.2 := by unfold w_d; rw [if_neg q1]
        have tb0 := hM.2.1
        refine sm_Sm_mono (c_temporary hM) (fun o M2 h2 => ?_)
        obtain ⟨h2, k2, r, rfl, hr⟩ := h2
        refine f171 M2 a b r _ st (by rw [e1]; exact h2) (by rw [k2, k1]) (fun z => ?_) hst
        rw [e1] at z
        have h60 : (w_tb sv l t).2.2 + 1 ≤ 60 := z.2
        rw [e2, hr z]
        exact ⟨(hv (wi_nv z)).1, (hv (wi_nv z)).2, jn_to (by omega) (by omega)⟩
    have no : sl_at sv l 1 = -1 → sm_Go g 102 (sm_Fn g Q) 154 [.ref 35, .int (Int32.ofInt (16 + (i : Int))), .int (Int32.ofInt (l 0)), .int a, .int b, .int (Int32.ofInt (l 1)), .null] [] M1 := fun e => by
      refine k102_154 (fun _ _ _ _ h => h) ?_
      rw [sm_o0]
      exact f155 false (decide_eq_false (fun z => z e)).symm
    refine k102_124 (fun _ _ _ _ h => h) ?_
    rw [to0, sm_z0, clx]
    refine ⟨fun q => no (by rw [sl1, if_neg (by rw [q]; decide)]), fun q => ?_⟩
    rw [Bool.not_eq_false] at q
    have b1 := lv_hv hk (j := 1) (by omega) (dv1 q)
    obtain ⟨s1, s2, s3, s4, s5⟩ := hs (l 1).toNat (by omega)
    have es : sl_at sv l 1 = sv (l 1).toNat := by rw [sl1, if_pos q]
    have e37 : M1.1 37 (16 + i) = Int32.ofInt (l 1) := R hM.1 1 (by omega)
    rw [e37, jn_cl (a := l 1) (by omega) (by omega), hM.1.1 45 (by omega) (by decide), s2, jn_cl (a := lr (l 1).toNat) (by omega) (by omega), hM.1.1 50 (by omega) (by decide), s3, sm_z0, decide_eq_false_iff_not]
    refine ⟨ix, by rw [jn_in (by omega) (by omega)]; omega, by rw [jn_in (by omega) (by omega)]; omega, fun q2 => no (by rw [es]; exact Classical.not_not.mp q2), fun q2 => ?_⟩
    rw [sm_o1]
    exact f155 true (by rw [es]; exact (decide_eq_true (Classical.not_not.mp q2)).symm)
  -- the second value
  have f67 : ∀ (M1 : sm_M) (a : Int32), wr_is M0 M1 (w_ld sv l 2 t) → M1.1 52 = M.1 52 → (wr_in (w_ld sv l 2 t) → a.toInt = w_lv sv l 2 t) → sm_Go g 102 (sm_Fn g Q) 67 [.ref 35, .int (Int32.ofInt (16 + (i : Int))), .int (Int32.ofInt (l 0)), .int a, .int (Int32.ofInt (l 3)), .int (Int32.ofInt (l 1)), .null] [] M1 := by
    intro M1 a hM k1 ha
    have no : sl_at sv l 3 = -1 → sm_Go g 102 (sm_Fn g Q) 124 [.ref 35, .int (Int32.ofInt (16 + (i : Int))), .int (Int32.ofInt (l 0)), .int a, .int (Int32.ofInt (l 3)), .int (Int32.ofInt (l 1)), .null] [] M1 := fun e => by
      have tw : ¬ sl_tw sv l = true := by unfold sl_tw; rw [decide_eq_false (p := ¬ sl_at sv l 3 = -1) (fun z => z e)]; simp
      have e1 : w_tb sv l t = w_ld sv l 2 t := by unfold w_tb; rw [if_neg tw, w_ld_y e]
      have e2 : w_b sv l t = l 3 := by unfold w_b; rw [if_neg tw, w_lv_y e]
      refine f124 M1 a _ (by rw [e1]; exact hM) k1 (fun z => ?_)
      rw [e1] at z
      rw [e2]
      exact ⟨ha z, jn_to (lr' 3).1 (lr' 3).2⟩
    refine k102_67 (fun _ _ _ _ h => h) ?_
    rw [to0, sm_z0, clx]
    refine ⟨fun q => no (by unfold sl_at; rw [pf_hv3, q]; rfl), fun q => ?_⟩
    rw [Bool.not_eq_false] at q
    have qv : pf_hv (l 0) 3 = true := by rw [pf_hv3]; exact q
    have b3 := lv_hv hk (j := 3) (by omega) qv
    obtain ⟨s1, s2, s3, s4, s5⟩ := hs (l 3).toNat (by omega)
    have es : sl_at sv l 3 = sv (l 3).toNat := by unfold sl_at; rw [if_pos qv]
    have e39 : M1.1 39 (16 + i) = Int32.ofInt (l 3) := R hM.1 3 (by omega)
    have e38 : M1.1 38 (16 + i) = Int32.ofInt (l 2) := R hM.1 2 (by omega)
    have b2 := lr' 2
    rw [e39, e38, jn_cl (a := l 3) (by omega) (by omega), hM.1.1 45 (by omega) (by decide), s2, jn_cl (a := lr (l 3).toNat) (by omega) (by omega), hM.1.1 50 (by omega) (by decide), s3, sm_z0, decide_eq_false_iff_not, jn_eq (by omega) (by omega) (by omega) (by omega)]
    refine ⟨ix, by rw [jn_in (by omega) (by omega)]; omega, by rw [jn_in (by omega) (by omega)]; omega, fun q2 => no (by rw [es]; exact Classical.not_not.mp q2), fun q2 => ⟨ix, ix, fun q3 => ⟨ix, ?_⟩, fun q3 => ?_⟩⟩
    · have q2 := Classical.not_not.mp q2
      have tw : ¬ sl_tw sv l = true := by unfold sl_tw; rw [decide_eq_false (show ¬ l 2 = l 3 by omega)]; simp
      have e1 : w_tb sv l t = w_ap (w_nv (w_ld sv l 2 t)) (mkl 8 (w_ld sv l 2 t).2.2 (sv (l 3).toNat) 0 (-1)) := by unfold w_tb; rw [if_neg tw, w_ld_z (by rw [es]; exact q2), es]
      have e2 : w_b sv l t = (w_ld sv l 2 t).2.2 := by unfold w_b; rw [if_neg tw, w_lv_z (by rw [es]; exact q2)]
      have v2 := hM.2.1
      rw [show l 3 = (((l 3).toNat : Nat) : Int) by omega]
      refine sm_Sm_mono (c_load hM hs (v := (l 3).toNat) (by omega) q2) (fun o M2 h2 => ?_)
      obtain ⟨h2, k2, r, rfl, hr⟩ := h2
      refine k102_122 (fun _ _ _ _ h => h) (f124 M2 a r (by rw [e1]; exact h2) (by rw [k2, k1]) (fun z => ?_))
      rw [e1] at z
      have z1 := wi_ap z
      have h60 : (w_ld sv l 2 t).2.2 + 1 ≤ 60 := z1.2
      rw [e2, hr z1]
      exact ⟨ha (wi_nv z1), jn_to (by omega) (by omega)⟩
    · have q2 := Classical.not_not.mp q2
      have qa : pf_hv (l 0) 2 = true := by
        rw [pf_hv2]
        unfold pf_rB at q
        unfold pf_rA
        simp only [Bool.or_eq_true, decide_eq_true_eq, Bool.and_eq_true] at q ⊢
        omega
      have es2 : sl_at sv l 2 = sv (l 3).toNat := by unfold sl_at; rw [if_pos qa, q3]
      have tw : sl_tw sv l = true := by unfold sl_tw; rw [es2, es, decide_eq_true q2, decide_eq_true (show l 2 = l 3 by omega)]; rfl
      have e1 : w_tb sv l t = w_ld sv l 2 t := by unfold w_tb; rw [if_pos tw]
      have e2 : w_b sv l t = w_lv sv l 2 t := by unfold w_b; rw [if_pos tw]
      refine k102_122 (fun _ _ _ _ h => h) (f124 M1 a a (by rw [e1]; exact hM) k1 (fun z => ?_))
      rw [e1] at z
      rw [e2]
      exact ⟨ha z, ha z⟩
  refine sm_entry (Nat.le_of_ble_eq_true rfl) (Nat.le_of_ble_eq_true rfl) ?_
  refine k102_0 (fun _ _ _ _ h => h) ?_
  have e36 : M.1 36 (16 + i) = Int32.ofInt (l 0) := R h.1 0 (by omega)
  have e37 : M.1 37 (16 + i) = Int32.ofInt (l 1) := R h.1 1 (by omega)
  have e38 : M.1 38 (16 + i) = Int32.ofInt (l 2) := R h.1 2 (by omega)
  have e39 : M.1 39 (16 + i) = Int32.ofInt (l 3) := R h.1 3 (by omega)
  rw [clx, e36, e37, e38, e39, to0, sm_z0]
  have no : sl_at sv l 2 = -1 → sm_Go g 102 (sm_Fn g Q) 67 [.ref 35, .int (Int32.ofInt (16 + (i : Int))), .int (Int32.ofInt (l 0)), .int (Int32.ofInt (l 2)), .int (Int32.ofInt (l 3)), .int (Int32.ofInt (l 1)), .null] [] M := fun e => by
    have e1 : w_ld sv l 2 t = t := by unfold w_ld; rw [if_pos e]
    have e2 : w_lv sv l 2 t = l 2 := by unfold w_lv; rw [if_pos e]
    refine f67 M _ (by rw [e1]; exact h) rfl (fun _ => ?_)
    rw [e2]; exact jn_to (lr' 2).1 (lr' 2).2
  refine ⟨ix, ix, ix, ix, fun q => no (by unfold sl_at; rw [pf_hv2, q]; rfl), fun q => ?_⟩
  rw [Bool.not_eq_false] at q
  have qv : pf_hv (l 0) 2 = true := by rw [pf_hv2]; exact q
  have b2 := lv_hv hk (j := 2) (by omega) qv
  obtain ⟨s1, s2, s3, s4, s5⟩ := hs (l 2).toNat (by omega)
  have es : sl_at sv l 2 = sv (l 2).toNat := by unfold sl_at; rw [if_pos qv]
  rw [jn_cl (a := l 2) (by omega) (by omega), h.1.1 45 (by omega) (by decide), s2, jn_cl (a := lr (l 2).toNat) (by omega) (by omega), h.1.1 50 (by omega) (by decide), s3, sm_z0, decide_eq_false_iff_not]
  refine ⟨ix, by rw [jn_in (by omega) (by omega)]; omega, by rw [jn_in (by omega) (by omega)]; omega, fun q2 => no (by rw [es]; exact Classical.not_not.mp q2), fun q2 => ⟨ix, ?_⟩⟩
  have q2 := Classical.not_not.mp q2
  have e1 : w_ld sv l 2 t = w_ap (w_nv t) (mkl 8 t.2.2 (sv (l 2).toNat) 0 (-1)) := by unfold w_ld; rw [es, if_neg q2]
  have e2 : w_lv sv l 2 t = t.2.2 := by unfold w_lv; rw [es, if_neg q2]
  rw [show Int32.ofInt (l 2) = Int32.ofInt (((l 2).toNat : Nat) : Int) by rw [show (((l 2).toNat : Nat) : Int) = l 2 by omega]]
  refine sm_Sm_mono (c_load h hs (v := (l 2).toNat) (by omega) q2) (fun o M2 h2 => ?_)
  obtain ⟨h2, k2, r, rfl, hr⟩ := h2
  refine f67 M2 r (by rw [e1]; exact h2) k2 (fun z => ?_)
  rw [e1] at z
  have z1 := wi_ap z
  have h60 : t.2.2 + 1 ≤ 60 := z1.2
  rw [e2, hr z1]
  exact jn_to (by omega) (by omega)
end
