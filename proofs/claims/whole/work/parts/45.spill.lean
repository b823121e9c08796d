-- the class's code and its spiller
section
variable {g : sm_G} {M : sm_M}
theorem cd_t {c : Nat} {i j : Int} (M : sm_M) : (M.1 (c + 1) (i * 5 + j).toNat).toInt = cd_l M c i j := rfl
theorem c_change {c : Nat} (hc : c = 1 ∨ c = 3 ∨ c = 23 ∨ c = 25) {i j : Int} (hi : 0 ≤ i ∧ i < 48) (hj : 0 ≤ j ∧ j < 5) {x : Int32} : sm_Sm g 11 [.ref c, .int (Int32.ofInt i), .int (Int32.ofInt j), .int x] M (fun o M' => o = none ∧ M' = sm_sI M (c + 1) (i * 5 + j).toNat x) := by
  refine sm_entry (Nat.le_of_ble_eq_true rfl) (Nat.le_of_ble_eq_true rfl) ?_
  refine k11_0 hc (fun _ _ _ _ h => h) ?_
  rw [jn_mul, jn_add, jn_cl (by omega) (by omega)]
  exact ⟨by rw [jn_in (by omega) (by omega)]; omega, rfl, rfl⟩
theorem cd_set {c : Nat} {i j : Int} (hi : 0 ≤ i ∧ i < 48) (hj : 0 ≤ j ∧ j < 5) {x : Int32} {a b : Int} (ha : 0 ≤ a ∧ a < 48) (hb : 0 ≤ b ∧ b < 5) : cd_l (sm_sI M (c + 1) (i * 5 + j).toNat x) c a b = if a = i ∧ b = j then x.toInt else cd_l M c a b := by
  unfold cd_l
  rw [sI_s]
  by_cases e : a = i ∧ b = j
  · rw [if_pos e, e.1, e.2, pk_us]
  · rw [if_neg e, pk_un (by omega)]
/-- a line more at the end of a code -/
theorem c_add {c : Nat} (hc : c = 1 ∨ c = 3 ∨ c = 23 ∨ c = 25) {n : Nat} (hn : M.1 c 1 = Int32.ofInt (n : Int)) (hn2 : n < 48) {x0 x1 x2 x3 x4 : Int32} : sm_Sm g 12 [.ref c, .int x0, .int x1, .int x2, .int x3, .int x4] M
    (fun o M' => o = none ∧ M'.1 c = upd (M.1 c) 1 (Int32.ofInt ((n + 1 : Nat) : Int)) ∧ (∀ i j : Int, 0 ≤ i ∧ i < 48 → 0 ≤ j ∧ j < 5 → cd_l M' c i j = if i = (n : Int) then mkl x0.toInt x1.toInt x2.toInt x3.toInt x4.toInt j else cd_l M c i j) ∧ (∀ p, p ≠ c → p ≠ c + 1 → M'.1 p = M.1 p) ∧ M'.2 = M.2) := by
  refine sm_entry (Nat.le_of_ble_eq_true rfl) (Nat.le_of_ble_eq_true rfl) ?_
  refine k12_0 hc (fun _ _ _ _ h => h) ?_
  rw [hn, jn_add, show (n : Int) + 1 = ((n + 1 : Nat) : Int) by omega]
  refine sm_Sm_mono (c_change hc (by omega) (by omega)) (fun o M1 h1 => ?_)
  obtain ⟨rfl, h1⟩ := h1
  refine sm_Sm_mono (c_change hc (by omega) (by omega)) (fun o M2 h2 => ?_)
  obtain ⟨rfl, h2⟩ := h2
  refine sm_Sm_mono (c_change hc (by omega) (by omega)) (fun o M3 h3 => ?_)
  obtain ⟨rfl, h3⟩ := h3
  refine sm_Sm_mono (c_change hc (by omega) (by omega)) (fun o M4 h4 => ?_)
  obtain ⟨rfl, h4⟩ := h4
  refine sm_Sm_mono (c_change hc (by omega) (by omega)) (fun o M5 h5 => ?_)
  obtain ⟨rfl, h5⟩ := h5
  have ce : c ≠ c + 1 := by omega
  refine ⟨rfl, ?_, fun i j hi hj => ?_, fun p p1 p2 => ?_, ?_⟩
  · rw [h5, sI_1 ce, h4, sI_1 ce, h3, sI_1 ce, h2, sI_1 ce, h1, sI_1 ce, sI_s]
  · rw [h5, cd_set (by omega) (by omega) hi hj, h4, cd_set (by omega) (by omega) hi hj, h3, cd_set (by omega) (by omega) hi hj, h2, cd_set (by omega) (by omega) hi hj, h1, cd_set (by omega) (by omega) hi hj]
    have e0 : cd_l (sm_sI M c 1 (Int32.ofInt ((n + 1 : Nat) : Int))) c i j = cd_l M c i j := by unfold cd_l; rw [sI_1 (by omega)]
    rw [e0]
    by_cases e : i = (n : Int)
    · rw [if_pos e]
      unfold mkl
      have hj5 : j = 0 ∨ j = 1 ∨ j = 2 ∨ j = 3 ∨ j = 4 := by omega
      rcases hj5 with q | q | q | q | q <;> subst q <;> simp [e]
    · rw [if_neg (fun z => e z.1), if_neg (fun z => e z.1), if_neg (fun z => e z.1), if_neg (fun z => e z.1), if_neg (fun z => e z.1), if_neg e]
  · rw [h5, sI_1 p2, h4, sI_1 p2, h3, sI_1 p2, h2, sI_1 p2, h1, sI_1 p2, sI_1 p1]
  · rw [h5, h4, h3, h2, h1]; rfl
/-- what the rewriting has made so far -/
def sp_is (M0 M : sm_M) (t : wT) : Prop := M.1 25 1 = Int32.ofInt (t.1 : Int) ∧ (∀ i : Nat, i < t.1 → ∀ j : Int, 0 ≤ j ∧ j < 5 → cd_l M 25 i j = t.2.1 i j) ∧ M.1 20 2 = Int32.ofInt t.2.2 ∧ (∀ p, p ≠ 20 → p ≠ 22 → p ≠ 25 → p ≠ 26 → M.1 p = M0.1 p) ∧ (∀ i, i ≠ 2 → M.1 20 i = M0.1 20 i) ∧ M.2 = M0.2
theorem mkl_c {a b c d e a' b' c' d' e' : Int} (h0 : a = a') (h1 : b = b') (h2 : c = c') (h3 : d = d') (h4 : e = e') (j : Int) : mkl a b c d e j = mkl a' b' c' d' e' j := by rw [h0, h1, h2, h3, h4]
theorem c_sadd {M0 : sm_M} {t : wT} (h : sp_is M0 M t) (ht : t.1 < 48) {x0 x1 x2 x3 x4 : Int32} {l : Int → Int} (hl : ∀ j, 0 ≤ j ∧ j < 5 → mkl x0.toInt x1.toInt x2.toInt x3.toInt x4.toInt j = l j) : sm_Sm g 12 [.ref 25, .int x0, .int x1, .int x2, .int x3, .int x4] M (fun o M' => o = none ∧ sp_is M0 M' (w_ap t l) ∧ M'.1 22 = M.1 22) := by
  obtain ⟨h1, h2, h3, h4, h5, h6⟩ := h
  refine sm_Sm_mono (c_add (by omega) h1 ht) (fun o M' h' => ?_)
  obtain ⟨rfl, a1, a2, a3, a4⟩ := h'
  refine ⟨rfl, ⟨by rw [a1, pk_us]; rfl, fun i hi j hj => ?_, by rw [a3 20 (by decide) (by decide)]; exact h3, fun p q1 q2 q3 q4 => by rw [a3 p q3 q4]; exact h4 p q1 q2 q3 q4, fun i hi => by rw [a3 20 (by decide) (by decide)]; exact h5 i hi, by rw [a4, h6]⟩, a3 22 (by decide) (by decide)⟩
  have hi : i < t.1 + 1 := hi
  rw [a2 i j (by omega) hj]
  show _ = (if i = t.1 then l else t.2.1 i) j
  by_cases e : i = t.1
  · rw [if_pos (by omega), if_pos e]; exact hl j hj
  · rw [if_neg (by omega), if_neg e]; exact h2 i (by omega) j hj
theorem c_newTemp {M0 : sm_M} {t : wT} (h : sp_is M0 M t) : sm_Sm g 50 [.ref 20] M (fun o M' => o = some (.int (Int32.ofInt t.2.2)) ∧ sp_is M0 M' (w_nv t) ∧ M'.1 22 = M.1 22) := by
  obtain ⟨h1, h2, h3, h4, h5, h6⟩ := h
  refine sm_entry (Nat.le_of_ble_eq_true rfl) (Nat.le_of_ble_eq_true rfl) ?_
  refine k50_0 (fun _ _ _ _ h => h) ?_
  rw [h3, jn_add]
  refine ⟨rfl, ⟨by rw [sI_1 (by decide)]; exact h1, fun i hi j hj => ?_, by rw [sI_s, pk_us]; rfl, fun p q1 q2 q3 q4 => by rw [sI_1 q1]; exact h4 p q1 q2 q3 q4, fun i hi => by rw [sI_s, pk_un hi]; exact h5 i hi, h6⟩, sI_1 (by decide)⟩
  have : cd_l (sm_sI M 20 2 (Int32.ofInt (t.2.2 + 1))) 25 i j = cd_l M 25 i j := by unfold cd_l; rw [sI_1 (by decide)]
  rw [this]; exact h2 i hi j hj
/-- what is known of a line that is rewritten -/
def sl_ok (M0 : sm_M) (sv : Nat → Int) (i : Int) : Prop := lv_ok (cd_l M0 23 i) ∧ (∀ v, v < 60 → M0.1 21 v = Int32.ofInt (sv v)) ∧ ∀ v, v < 60 → -1 ≤ sv v ∧ sv v < 100
theorem lv_hv {l : Int → Int} (h : lv_ok l) {j : Int} (hj : 1 ≤ j ∧ j < 4) (hv : pf_hv (l 0) j = true) : 0 ≤ l j ∧ l j < 60 := by
  obtain ⟨h0, h1, h2, h3, -, -⟩ := h
  have hj3 : j = 1 ∨ j = 2 ∨ j = 3 := by omega
  rcases hj3 with rfl | rfl | rfl
  · exact h1 hv
  · exact h2 hv
  · exact h3 hv
theorem sp_L {M0 : sm_M} {t : wT} (h : sp_is M0 M t) : cd_l M 23 = cd_l M0 23 := by funext i j; unfold cd_l; rw [h.2.2.2.1 24 (by decide) (by decide) (by decide) (by decide)]
theorem sp_sl {M0 : sm_M} {sv : Nat → Int} {i : Int} (hk : sl_ok M0 sv i) (h21 : M.1 21 = M0.1 21) (hL : cd_l M 23 = cd_l M0 23) {j : Int} (hj : 1 ≤ j ∧ j < 4) : cd_sl M i j = sl_at sv (cd_l M0 23 i) j := by
  unfold cd_sl sl_at
  rw [hL, h21]
  by_cases e : pf_hv (cd_l M0 23 i 0) j = true
  · have r := lv_hv hk.1 hj e
    have rs := hk.2.2 (cd_l M0 23 i j).toNat (by omega)
    rw [if_pos e, if_pos e, hk.2.1 _ (by omega), jn_to (by omega) (by omega)]
  · rw [if_neg e, if_neg e]
theorem sl_r {M0 : sm_M} {sv : Nat → Int} {i : Int} (hk : sl_ok M0 sv i) {j : Int} (hj : 1 ≤ j ∧ j < 4) : -1 ≤ sl_at sv (cd_l M0 23 i) j ∧ sl_at sv (cd_l M0 23 i) j < 100 := by
  unfold sl_at
  by_cases e : pf_hv (cd_l M0 23 i 0) j = true
  · have r := lv_hv hk.1 hj e
    rw [if_pos e]; exact hk.2.2 _ (by omega)
  · rw [if_neg e]; omega
theorem c_twice {M0 : sm_M} {sv : Nat → Int} {i : Int} (hi : 0 ≤ i ∧ i < 48) (hk : sl_ok M0 sv i) (h21 : M.1 21 = M0.1 21) (hL : cd_l M 23 = cd_l M0 23) : sm_Sm g 46 [.ref 20, .ref 23, .int (Int32.ofInt i)] M (sm_P (.int (sm_z (sl_tw sv (cd_l M0 23 i)))) M) := by
  have ti : (Int32.ofInt i).toInt = i := jn_to (by omega) (by omega)
  have t2 : (Int32.ofInt 2).toInt = 2 := rfl
  have t3 : (Int32.ofInt 3).toInt = 3 := rfl
  have r2 := sl_r hk (j := 2) (by omega)
  have r3 := sl_r hk (j := 3) (by omega)
  have l2 := @cd_lr M0 23 i 2
  have l3 := @cd_lr M0 23 i 3
  refine sm_entry (Nat.le_of_ble_eq_true rfl) (Nat.le_of_ble_eq_true rfl) ?_
  refine k46_0 (fun _ _ _ _ h => h) ?_
  rw [ti, t2, t3, sp_sl hk h21 hL (j := 2) (by omega), sp_sl hk h21 hL (j := 3) (by omega), hL, jn_eq (by omega) (by omega) (by omega) (by omega), jn_eq (by omega) (by omega) (by omega) (by omega), jn_eq (by omega) (by omega) (by omega) (by omega)]
  unfold sl_tw
  refine ⟨⟨hi.1, hi.2, by omega, by omega, fun q => lv_hv hk.1 (by omega) q⟩, fun q => ⟨Or.inl rfl, ?_, rfl⟩, fun q => ⟨⟨hi.1, hi.2, by omega, by omega, fun q => lv_hv hk.1 (by omega) q⟩, fun q2 => ⟨Or.inl rfl, ?_, rfl⟩, fun q2 => ⟨⟨hi.1, hi.2, by omega, by omega⟩, ⟨hi.1, hi.2, by omega, by omega⟩, fun q3 => ⟨Or.inl rfl, ?_, rfl⟩, fun q3 => ⟨Or.inr rfl, ?_, rfl⟩⟩⟩⟩
  · rw [decide_eq_false (fun z => z q), sm_o0]; rfl
  · rw [decide_eq_false (p := ¬ sl_at sv (cd_l M0 23 i) 3 = -1) (fun z => z q2), sm_o0]; simp
  · rw [decide_eq_false q3, sm_o0]; simp
  · rw [decide_eq_true q, decide_eq_true q2, decide_eq_true q3, sm_o1]; rfl
theorem c_loaded {M0 : sm_M} {sv : Nat → Int} {t : wT} (h : sp_is M0 M t) {i : Int} (hi : 0 ≤ i ∧ i < 48) (hk : sl_ok M0 sv i) {j : Int} (hj : 1 ≤ j ∧ j < 4) (ht : (w_ld sv (cd_l M0 23 i) j t).1 ≤ 48) (hV : 0 ≤ t.2.2 ∧ t.2.2 < 1000) :
    sm_Sm g 49 [.ref 20, .ref 23, .int (Int32.ofInt i), .int (Int32.ofInt j), .ref 25] M (fun o M' => o = some (.int (Int32.ofInt (w_lv sv (cd_l M0 23 i) j t))) ∧ sp_is M0 M' (w_ld sv (cd_l M0 23 i) j t) ∧ M'.1 22 = M.1 22) := by
  have ti : (Int32.ofInt i).toInt = i := jn_to (by omega) (by omega)
  have tj : (Int32.ofInt j).toInt = j := jn_to (by omega) (by omega)
  have r2 := sl_r hk hj
  have hL := sp_L h
  have h21 : M.1 21 = M0.1 21 := h.2.2.2.1 21 (by decide) (by decide) (by decide) (by decide)
  refine sm_entry (Nat.le_of_ble_eq_true rfl) (Nat.le_of_ble_eq_true rfl) ?_
  refine k49_0 (fun _ _ _ _ h => h) ?_
  rw [ti, tj, sp_sl hk h21 hL hj, hL, jn_eq (by omega) (by omega) (by omega) (by omega)]
  unfold w_ld w_lv at *
  refine ⟨⟨hi.1, hi.2, hj.1, hj.2, fun q => lv_hv hk.1 hj q⟩, fun q => ?_, fun q => ⟨⟨hi.1, hi.2, by omega, by omega⟩, ?_⟩⟩
  · rw [if_neg q] at ht ⊢
    have ht : t.1 + 1 ≤ 48 := ht
    rw [if_neg q]
    refine sm_Sm_mono (c_newTemp h) (fun o M1 h1 => ?_)
    obtain ⟨rfl, h1, k1⟩ := h1
    refine sm_Sm_mono (c_sadd h1 (show t.1 < 48 by omega) (l := mkl 8 t.2.2 (sl_at sv (cd_l M0 23 i) j) 0 (-1)) (fun b _ => mkl_c rfl (jn_to (by omega) (by omega)) (jn_to (by omega) (by omega)) rfl rfl b)) (fun o M2 h2 => ?_)
    obtain ⟨rfl, h2, k2⟩ := h2
    exact ⟨rfl, h2, by rw [k2, k1]⟩
  · rw [if_pos q, if_pos q]
    exact ⟨rfl, h, rfl⟩
theorem c_rewriteLine {M0 : sm_M} {sv : Nat → Int} {t : wT} (h : sp_is M0 M t) {i : Int} (hi : 0 ≤ i ∧ i < 48) (hk : sl_ok M0 sv i) (ht : (w_line sv (cd_l M0 23 i) t).1 ≤ 48) (hV : 0 ≤ t.2.2 ∧ t.2.2 < 900) :
    sm_Sm g 48 [.ref 20, .ref 23, .int (Int32.ofInt i), .ref 25] M (fun o M' => o = none ∧ sp_is M0 M' (w_line sv (cd_l M0 23 i) t) ∧ M'.1 22 = M.1 22) := by
  have ti : (Int32.ofInt i).toInt = i := jn_to (by omega) (by omega)
  have t0 : (Int32.ofInt 0).toInt = 0 := rfl
  have t1 : (Int32.ofInt 1).toInt = 1 := rfl
  have t4 : (Int32.ofInt 4).toInt = 4 := rfl
  have g1 := gl_j1 sv (cd_l M0 23 i) 1
  have g2 := gl_j1 sv (cd_l M0 23 i) 2
  have g3 := gl_j1 sv (cd_l M0 23 i) 3
  obtain ⟨n1, n2⟩ := w_line_n sv (cd_l M0 23 i) t
  obtain ⟨b1, b2⟩ := w_tb_n sv (cd_l M0 23 i) t
  obtain ⟨a1, a2⟩ := w_ld_n sv (cd_l M0 23 i) 2 t
  have ge := gl_eq sv (cd_l M0 23 i)
  have lr := fun j => @cd_lr M0 23 i j
  have r1 := sl_r hk (j := 1) (by omega)
  generalize hQ : (fun (o : Option Value) (M' : sm_M) => o = none ∧ sp_is M0 M' (w_line sv (cd_l M0 23 i) t) ∧ M'.1 22 = M.1 22) = Q
  have ra : ∀ (j : Int) (t' : wT), 0 ≤ t'.2.2 ∧ t'.2.2 < 2000 → -2147483648 ≤ w_lv sv (cd_l M0 23 i) j t' ∧ w_lv sv (cd_l M0 23 i) j t' < 2147483648 := fun j t' q => by
    unfold w_lv
    have := lr j
    split <;> omega
  have f62 : ∀ (d : Int32) (M2 : sm_M), sp_is M0 M2 (w_td sv (cd_l M0 23 i) t) → M2.1 22 = M.1 22 → d.toInt = w_d sv (cd_l M0 23 i) t → sm_Go g 48 (sm_Fn g Q) 62 [.ref 20, .ref 23, .int (Int32.ofInt i), .ref 25, .int (Int32.ofInt (w_lv sv (cd_l M0 23 i) 2 t)), .int (Int32.ofInt (w_b sv (cd_l M0 23 i) t)), .int (Int32.ofInt (sl_at sv (cd_l M0 23 i) 1)), .null] [.int d] M2 := by
    intro d M2 hs k2 hd
    have hL := sp_L hs
    have wl : (w_line sv (cd_l M0 23 i) t) = if sl_at sv (cd_l M0 23 i) 1 = -1 then w_tl sv (cd_l M0 23 i) t else w_ap (w_tl sv (cd_l M0 23 i) t) (mkl 9 (w_d sv (cd_l M0 23 i) t) (sl_at sv (cd_l M0 23 i) 1) 0 (-1)) := rfl
    have tl1 : (w_tl sv (cd_l M0 23 i) t).1 = (w_td sv (cd_l M0 23 i) t).1 + 1 := rfl
    have rb : -2147483648 ≤ w_b sv (cd_l M0 23 i) t ∧ w_b sv (cd_l M0 23 i) t < 2147483648 := by
      unfold w_b
      split
      · exact ra 2 t (by omega)
      · exact ra 3 _ (by omega)
    refine k48_62 (fun _ _ _ _ h => h) ?_
    rw [ti, t0, t4, hL, jn_eq (by omega) (by omega) (by omega) (by omega)]
    refine ⟨⟨hi.1, hi.2, by omega, by omega⟩, ⟨hi.1, hi.2, by omega, by omega⟩, ?_⟩
    have nt : (w_td sv (cd_l M0 23 i) t).1 < 48 := by
      by_cases e : sl_at sv (cd_l M0 23 i) 1 = -1
      · rw [if_pos e] at wl; rw [wl] at ht; omega
      · rw [if_neg e] at wl; rw [wl] at ht
        have : (w_tl sv (cd_l M0 23 i) t).1 + 1 ≤ 48 := ht
        omega
    refine sm_Sm_mono (c_sadd hs nt (l := mkl (cd_l M0 23 i 0) (w_d sv (cd_l M0 23 i) t) (w_lv sv (cd_l M0 23 i) 2 t) (w_b sv (cd_l M0 23 i) t) (cd_l M0 23 i 4)) (fun b _ => mkl_c cd_lt hd (jn_to (ra 2 t (by omega)).1 (ra 2 t (by omega)).2) (jn_to rb.1 rb.2) cd_lt b)) (fun o M3 h3 => ?_)
    obtain ⟨rfl, h3, k3⟩ := h3
    refine ⟨fun q => ?_, fun q => ?_⟩
    · rw [← hQ, wl, if_pos q]
      exact ⟨rfl, h3, by rw [k3, k2]⟩
    · rw [if_neg q] at wl
      have nt2 : (w_tl sv (cd_l M0 23 i) t).1 < 48 := by
        rw [wl] at ht
        have : (w_tl sv (cd_l M0 23 i) t).1 + 1 ≤ 48 := ht
        omega
      refine sm_Sm_mono (c_sadd h3 nt2 (l := mkl 9 (w_d sv (cd_l M0 23 i) t) (sl_at sv (cd_l M0 23 i) 1) 0 (-1)) (fun b _ => mkl_c rfl hd (jn_to (by omega) (by omega)) rfl rfl b)) (fun o M4 h4 => ?_)
      obtain ⟨rfl, h4, k4⟩ := h4
      show Q _ _
      rw [← hQ, wl]
      exact ⟨rfl, h4, by rw [k4, k3, k2]⟩
  have f32 : ∀ M2 : sm_M, sp_is M0 M2 (w_tb sv (cd_l M0 23 i) t) → M2.1 22 = M.1 22 → sm_Go g 48 (sm_Fn g Q) 32 [.ref 20, .ref 23, .int (Int32.ofInt i), .ref 25, .int (Int32.ofInt (w_lv sv (cd_l M0 23 i) 2 t)), .null, .null, .null] [.int (Int32.ofInt (w_b sv (cd_l M0 23 i) t))] M2 := by
    intro M2 hs k2
    have hL := sp_L hs
    have h21 : M2.1 21 = M0.1 21 := hs.2.2.2.1 21 (by decide) (by decide) (by decide) (by decide)
    refine k48_32 (fun _ _ _ _ h => h) ?_
    rw [ti, t1, sp_sl hk h21 hL (j := 1) (by omega), hL, jn_eq (by omega) (by omega) (by omega) (by omega)]
    refine ⟨⟨hi.1, hi.2, by omega, by omega, fun q => lv_hv hk.1 (by omega) q⟩, fun q => ?_, fun q => ⟨⟨hi.1, hi.2, by omega, by omega⟩, f62 _ M2 ?_ k2 ?_⟩⟩
    · refine sm_Sm_mono (c_newTemp hs) (fun o M3 h3 => ?_)
      obtain ⟨rfl, h3, k3⟩ := h3
      refine f62 _ M3 ?_ (by rw [k3, k2]) ?_
      · unfold w_td; rw [if_neg q]; exact h3
      · unfold w_d; rw [if_neg q]; exact jn_to (by omega) (by omega)
    · unfold w_td; rw [if_pos q]; exact hs
    · unfold w_d; rw [if_pos q]; exact cd_lt
  refine sm_entry (Nat.le_of_ble_eq_true rfl) (Nat.le_of_ble_eq_true rfl) ?_
  refine k48_0 (fun _ _ _ _ h => h) ?_
  refine sm_Sm_mono (c_loaded h hi hk (j := 2) (by omega) (by omega) (by omega)) (fun o M1 h1 => ?_)
  obtain ⟨rfl, h1, k1⟩ := h1
  refine sm_Sm_mono (c_twice hi hk (h1.2.2.2.1 21 (by decide) (by decide) (by decide) (by decide)) (sp_L h1)) (fun o M2 h2 => ?_)
  obtain ⟨rfl, rfl⟩ := h2
  show (_ → _) ∧ (_ → _)
  rw [sm_z0]
  refine ⟨fun q => ?_, fun q => ?_⟩
  · have q' : ¬ sl_tw sv (cd_l M0 23 i) = true := by rw [q]; decide
    rw [if_neg q'] at ge
    have a3 := w_ld_n sv (cd_l M0 23 i) 3 (w_ld sv (cd_l M0 23 i) 2 t)
    refine sm_Sm_mono (c_loaded h1 hi hk (j := 3) (by omega) (by omega) (by omega)) (fun o M3 h3 => ?_)
    obtain ⟨rfl, h3, k3⟩ := h3
    have e1 : w_tb sv (cd_l M0 23 i) t = w_ld sv (cd_l M0 23 i) 3 (w_ld sv (cd_l M0 23 i) 2 t) := by unfold w_tb; rw [if_neg q']
    have e2 : w_b sv (cd_l M0 23 i) t = w_lv sv (cd_l M0 23 i) 3 (w_ld sv (cd_l M0 23 i) 2 t) := by unfold w_b; rw [if_neg q']
    rw [← e1] at h3
    rw [← e2]
    exact f32 M3 h3 (by rw [k3, k1])
  · rw [Bool.not_eq_false] at q
    have e1 : w_tb sv (cd_l M0 23 i) t = w_ld sv (cd_l M0 23 i) 2 t := by unfold w_tb; rw [if_pos q]
    have e2 : w_b sv (cd_l M0 23 i) t = w_lv sv (cd_l M0 23 i) 2 t := by unfold w_b; rw [if_pos q]
    rw [← e1] at h1
    have := f32 M2 h1 k1
    rw [e2] at this
    exact this
end
