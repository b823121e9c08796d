-- the reference's run
def rf_L (M : sm_M) (b i j : Int) : Int := rf_l M (b + i) j.toNat
def mw_v (l : Int → Int) (r : Nat → Int32) : Int32 :=
  if l 0 = 0 then Int32.ofInt (l 2)
  else if l 0 = 1 then r (l 2).toNat
  else if l 0 = 2 then r (l 2).toNat + r (l 3).toNat
  else if l 0 = 3 then r (l 2).toNat - r (l 3).toNat
  else if r (l 3).toNat ≤ r (l 2).toNat then Int32.ofInt 0 else Int32.ofInt 1
theorem mw_wv {l : Int → Int} {t : mw_T} (h0 : 0 ≤ l 0) (h4 : l 0 ≤ 4) : mw_w l t = (upd t.1 (l 1).toNat (mw_v l t.1), t.2) := by
  unfold mw_w mw_v
  by_cases q0 : l 0 = 0
  · rw [if_pos q0, if_pos q0]
  rw [if_neg q0, if_neg q0]
  by_cases q1 : l 0 = 1
  · rw [if_pos q1, if_pos q1]
  rw [if_neg q1, if_neg q1]
  by_cases q2 : l 0 = 2
  · rw [if_pos q2, if_pos q2]
  rw [if_neg q2, if_neg q2]
  by_cases q3 : l 0 = 3
  · rw [if_pos q3, if_pos q3]
  rw [if_neg q3, if_neg q3, if_pos (by omega)]
def rw_get (M : sm_M) : mw_T := (M.1 56, M.1 57, M.1 58, M.1 35 33)
def rw_is (M0 M : sm_M) (t : mw_T) : Prop := rw_get M = t ∧ (∀ k, k ≠ 33 → M.1 35 k = M0.1 35 k) ∧ (∀ p, p ≠ 35 → p ≠ 56 → p ≠ 57 → p ≠ 58 → M.1 p = M0.1 p) ∧ M.2 = M0.2
theorem rw_r {M0 M : sm_M} {t : mw_T} (h : rw_is M0 M t) (k : Nat) (v : Int32) : rw_is M0 (sm_sI M 56 k v) (upd t.1 k v, t.2) := by
  obtain ⟨rfl, h2, h3, h4⟩ := h
  refine ⟨?_, fun j hj => ?_, fun p h5 h6 h7 h8 => ?_, h4⟩
  · simp [rw_get, sI_s, sI_1]
  · rw [sI_1 (by decide)]; exact h2 j hj
  · rw [sI_1 h6]; exact h3 p h5 h6 h7 h8
theorem rw_s {M0 M : sm_M} {t : mw_T} (h : rw_is M0 M t) (k : Nat) (v : Int32) : rw_is M0 (sm_sI M 57 k v) (t.1, upd t.2.1 k v, t.2.2) := by
  obtain ⟨rfl, h2, h3, h4⟩ := h
  refine ⟨?_, fun j hj => ?_, fun p h5 h6 h7 h8 => ?_, h4⟩
  · simp [rw_get, sI_s, sI_1]
  · rw [sI_1 (by decide)]; exact h2 j hj
  · rw [sI_1 h7]; exact h3 p h5 h6 h7 h8
theorem rw_o {M0 M : sm_M} {t : mw_T} (h : rw_is M0 M t) (k : Nat) (v : Int32) : rw_is M0 (sm_sI M 58 k v) (t.1, t.2.1, upd t.2.2.1 k v, t.2.2.2) := by
  obtain ⟨rfl, h2, h3, h4⟩ := h
  refine ⟨?_, fun j hj => ?_, fun p h5 h6 h7 h8 => ?_, h4⟩
  · simp [rw_get, sI_s, sI_1]
  · rw [sI_1 (by decide)]; exact h2 j hj
  · rw [sI_1 h8]; exact h3 p h5 h6 h7 h8
theorem rw_c {M0 M : sm_M} {t : mw_T} (h : rw_is M0 M t) (v : Int32) : rw_is M0 (sm_sI M 35 33 v) (t.1, t.2.1, t.2.2.1, v) := by
  obtain ⟨rfl, h2, h3, h4⟩ := h
  refine ⟨?_, fun j hj => ?_, fun p h5 h6 h7 h8 => ?_, h4⟩
  · simp [rw_get, sI_s, sI_1, upd]
  · rw [sI_s]; simp [upd, hj]; exact h2 j hj
  · rw [sI_1 h5]; exact h3 p h5 h6 h7 h8
theorem rw_0 (M : sm_M) : rw_is M M (rw_get M) := ⟨rfl, fun _ _ => rfl, fun _ _ _ _ _ => rfl, rfl⟩
theorem rw_l {M0 M : sm_M} {t : mw_T} (h : rw_is M0 M t) (i : Int) (j : Nat) (hj : j < 5) : rf_l M i j = rf_l M0 i j := by
  unfold rf_l
  rw [h.2.2.1 (36 + j) (by omega) (by omega) (by omega) (by omega)]
section
variable {g : sm_G} {M M0 : sm_M}
theorem c_rputOut {t : mw_T} (h : rw_is M0 M t) (h0 : 0 ≤ t.2.2.2.toInt) (x : Int32) : sm_Sm g 116 [.ref 35, .int x] M (fun o M' => o = none ∧ rw_is M0 M' (mw_out x t)) := by
  have e : M.1 35 33 = t.2.2.2 := by rw [← h.1]; rfl
  refine sm_entry (Nat.le_of_ble_eq_true rfl) (Nat.le_of_ble_eq_true rfl) ?_
  refine k116_0 (fun _ _ _ _ h => h) ⟨fun q => k116_19 (fun _ _ _ _ h => h) ⟨rfl, ?_⟩, fun q => ⟨?_, k116_19 (fun _ _ _ _ h => h) ⟨rfl, ?_⟩⟩⟩ <;>
    rw [e] at q ⊢ <;> simp (disch := omega) only [Int32.le_iff_toInt_le, jn_to] at q
  · have := rw_c h (t.2.2.2 + Int32.ofInt 1)
    rw [mw_out, if_neg (by omega)]
    exact this
  · rw [vp_in_iff]; omega
  · have h1 := rw_o h t.2.2.2.toNatClampNeg x
    have h2 := rw_c h1 (t.2.2.2 + Int32.ofInt 1)
    rw [mw_out, if_pos (by omega)]
    rw [sI_1 (by decide), e]
    exact h2
theorem c_worth {t : mw_T} (h : rw_is M0 M t) {l : Int → Int} (hl : mw_ok l) (h4 : l 0 ≤ 4) (hr : -2147483648 ≤ l 2 ∧ l 2 < 2147483648) : sm_Sm g 115 [.ref 35, .int (Int32.ofInt (l 0)), .int (Int32.ofInt (l 2)), .int (Int32.ofInt (l 3))] M (fun o M' => o = some (.int (mw_v l t.1)) ∧ M' = M) := by
  have er : ∀ k, M.1 56 k = t.1 k := fun k => by rw [← h.1]; rfl
  obtain ⟨⟨a0, a9⟩, -, wa, wb, -, -⟩ := hl
  refine sm_entry (Nat.le_of_ble_eq_true rfl) (Nat.le_of_ble_eq_true rfl) ?_
  refine k115_0 (fun _ _ _ _ h => h) ?_
  rw [jn_to (by omega) (by omega)]
  have ha : 1 ≤ l 0 → 0 ≤ l 2 ∧ l 2 < 10 := fun q => wa (Or.inl (by unfold pf_hv; simp; omega))
  have hb : 2 ≤ l 0 → 0 ≤ l 3 ∧ l 3 < 10 := fun q => wb (by unfold pf_hv; simp; omega)
  refine ⟨fun q => ?_, fun q => ⟨?_, rfl⟩, fun q => ?_, fun q => ?_, fun q => ?_, trivial⟩
  · have ha := ha (by omega)
    have hb := hb (by omega)
    rw [jn_in (by omega) (by omega), jn_in (by omega) (by omega), jn_cl (by omega) (by omega), jn_cl (by omega) (by omega), er, er]
    refine ⟨by omega, by omega, fun z => ⟨?_, rfl⟩, fun z => ⟨?_, rfl⟩⟩
    · rw [mw_v, if_neg (by omega), if_neg (by omega), if_neg (by omega), if_neg (by omega), if_pos z]
    · rw [mw_v, if_neg (by omega), if_neg (by omega), if_neg (by omega), if_neg (by omega), if_neg z]
  · rw [mw_v, if_pos q]
  · have ha := ha (by omega)
    rw [jn_in (by omega) (by omega), jn_cl (by omega) (by omega), er]
    refine ⟨by omega, ?_, rfl⟩
    rw [mw_v, if_neg (by omega), if_pos (by omega)]
  · have ha := ha (by omega)
    have hb := hb (by omega)
    rw [jn_in (by omega) (by omega), jn_in (by omega) (by omega), jn_cl (by omega) (by omega), jn_cl (by omega) (by omega), er, er]
    refine ⟨by omega, by omega, ?_, rfl⟩
    rw [mw_v, if_neg (by omega), if_neg (by omega), if_pos (by omega)]
  · have ha := ha (by omega)
    have hb := hb (by omega)
    rw [jn_in (by omega) (by omega), jn_in (by omega) (by omega), jn_cl (by omega) (by omega), jn_cl (by omega) (by omega), er, er]
    refine ⟨by omega, by omega, ?_, rfl⟩
    rw [mw_v, if_neg (by omega), if_neg (by omega), if_neg (by omega), if_pos (by omega)]
end
