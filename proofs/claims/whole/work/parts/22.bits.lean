theorem lg_0 {x y : Int64} : lg_cmp x y = 0 ↔ x = y := by
  unfold lg_cmp
  by_cases h : x = y
  · subst h
    simp
  · simp only [h, if_false]
    constructor
    · intro q
      split at q <;> exact absurd q (by decide)
    · intro q; exact q.elim
theorem bs_c : ∀ v, v < 64 → ((Int32.ofInt ((v : Nat) : Int)).toInt64 &&& 63) = Int64.ofNat v := by decide +kernel
theorem bs_bit : ∀ a, a < 64 → ∀ i, i < 64 → bs_t (pf_bit (Int32.ofInt ((a : Nat) : Int))) i = decide (i = a) := by decide +kernel
theorem bs_sm : ∀ v, v < 64 → ((Int64.ofNat v).toBitVec.smod 64).toNat = v := by decide +kernel
theorem bs_one : ∀ i, i < 64 → bs_t (Int64.ofNat 1) i = decide (i = 0) := by decide +kernel
theorem bs_sr (s : Int64) {v : Nat} (hv : v < 64) : bs_t (s >>> Int64.ofNat v) 0 = bs_t s v := by
  unfold bs_t
  rw [Int64.toBitVec_shiftRight]
  simp only [BitVec.sshiftRight', BitVec.getLsbD_sshiftRight]
  rw [bs_sm v hv]
  simp [hv]
theorem bs_hb {s : Int64} {v : Nat} (hv : v < 64) : pf_hb s (Int32.ofInt (v : Int)) = bs_t s v := by
  unfold pf_hb
  rw [bs_c v hv]
  have h1 : bs_t ((s >>> Int64.ofNat v) &&& Int64.ofNat 1) 0 = bs_t s v := by rw [bs_and, bs_one 0 (by omega), bs_sr s hv]; simp
  rw [← h1]
  generalize s >>> Int64.ofNat v = y
  cases hb : bs_t (y &&& Int64.ofNat 1) 0 with
  | true =>
    refine decide_eq_true (fun q => ?_)
    rw [lg_0] at q
    rw [q, bs_0] at hb
    cases hb
  | false =>
    refine decide_eq_false (fun q => q ?_)
    rw [lg_0]
    refine bs_ext (fun i hi => ?_)
    rw [bs_0]
    by_cases e : i = 0
    · subst e; exact hb
    · rw [bs_and, bs_one i hi]; simp [e]
theorem bs_hbI {s : Int64} {v : Int} (hv : 0 ≤ v ∧ v < 64) : pf_hb s (Int32.ofInt v) = bs_t s v.toNat := by
  have h := bs_hb (s := s) (v := v.toNat) (by omega)
  rw [show ((v.toNat : Nat) : Int) = v by omega] at h
  exact h
theorem bs_bitI {a : Int} (ha : 0 ≤ a ∧ a < 64) {i : Nat} (hi : i < 64) : bs_t (pf_bit (Int32.ofInt a)) i = decide (a = (i : Int)) := by
  have h := bs_bit a.toNat (by omega) i hi
  rw [show ((a.toNat : Nat) : Int) = a by omega] at h
  rw [h]
  by_cases e : i = a.toNat
  · rw [decide_eq_true e, decide_eq_true (by omega)]
  · rw [decide_eq_false e, decide_eq_false (by omega)]
-- a line's sets, bit by bit (values below 60)
def lv_ok (l : Int → Int) : Prop := (0 ≤ l 0 ∧ l 0 ≤ 9) ∧ (pf_hv (l 0) 1 = true → 0 ≤ l 1 ∧ l 1 < 60) ∧ (pf_hv (l 0) 2 = true → 0 ≤ l 2 ∧ l 2 < 60) ∧ (pf_hv (l 0) 3 = true → 0 ≤ l 3 ∧ l 3 < 60) ∧ (l 0 = 5 → 0 ≤ l 2) ∧ (l 0 = 6 → 0 ≤ l 3)
theorem pf_hv2 {o : Int} : pf_hv o 2 = pf_rA o := by unfold pf_hv pf_rA; simp
theorem pf_hv3 {o : Int} : pf_hv o 3 = pf_rB o := by
  unfold pf_hv pf_rB
  by_cases h : 2 ≤ o
  · simp [h, show 1 < o by omega]
  · simp [h, show ¬ 1 < o by omega]
theorem lv_bus {M : sm_M} {c : Nat} {i : Int} (h : lv_ok (cd_l M c i)) {v : Nat} (hv : v < 64) : bs_t (cd_us M c i) v = lv_us (cd_l M c i) v := by
  obtain ⟨⟨h0, h9⟩, wd, wa, wb, -, -⟩ := h
  have u0 : bs_t (cd_u0 M c i) v = (decide (cd_l M c i 0 = 9) && decide (cd_l M c i 1 = (v : Int))) := by
    unfold cd_u0
    by_cases q : cd_l M c i 0 = 9
    · have hd := wd (by rw [q]; decide)
      rw [if_pos q, bs_bitI (by omega) hv, decide_eq_true q, Bool.true_and]
    · rw [if_neg q, bs_0, decide_eq_false q, Bool.false_and]
  have u1 : bs_t (cd_u1 M c i) v = ((pf_rA (cd_l M c i 0) && decide (cd_l M c i 2 = (v : Int))) || bs_t (cd_u0 M c i) v) := by
    unfold cd_u1
    rw [pf_hv2]
    by_cases q : pf_rA (cd_l M c i 0) = true
    · have ha := wa (by rw [pf_hv2]; exact q)
      rw [if_pos q, bs_or, bs_bitI (by omega) hv, q, Bool.true_and, Bool.or_comm]
    · rw [if_neg q]
      simp only [Bool.not_eq_true] at q
      rw [q, Bool.false_and, Bool.false_or]
  unfold cd_us
  rw [pf_hv3]
  by_cases q : pf_rB (cd_l M c i 0) = true
  · have hb := wb (by rw [pf_hv3]; exact q)
    rw [if_pos q, bs_or, bs_bitI (by omega) hv, u1, u0, lv_us, q, Bool.true_and]
    cases (pf_rA (cd_l M c i 0) && decide (cd_l M c i 2 = (v : Int))) <;> cases (decide (cd_l M c i 0 = 9) && decide (cd_l M c i 1 = (v : Int))) <;> cases decide (cd_l M c i 3 = (v : Int)) <;> rfl
  · rw [if_neg q]
    simp only [Bool.not_eq_true] at q
    rw [u1, u0, lv_us, q, Bool.false_and, Bool.false_or]
theorem lv_bdf {M : sm_M} {c : Nat} {i : Int} (h : lv_ok (cd_l M c i)) {v : Nat} (hv : v < 64) : bs_t (cd_df M c i) v = lv_df (cd_l M c i) v := by
  obtain ⟨⟨h0, h9⟩, wd, -, -, -, -⟩ := h
  unfold cd_df lv_df
  by_cases q : pf_dv (cd_l M c i 0) = true
  · have hd := wd (by unfold pf_dv at q; unfold pf_hv; simp at q ⊢; omega)
    rw [if_pos q, bs_bitI (by omega) hv, q, Bool.true_and]
  · rw [if_neg q, bs_0]
    simp only [Bool.not_eq_true] at q
    rw [q, Bool.false_and]
theorem lv_won {M : sm_M} {c : Nat} {i : Int} : cd_on M c i = lv_on (cd_l M c i) (cd_n M c) i := rfl
theorem lv_was {M : sm_M} {c : Nat} {i : Int} : cd_as M c i = lv_as (cd_l M c i) (cd_n M c) := by
  unfold cd_as lv_as pf_tc mw_cl
  by_cases h5 : cd_l M c i 0 = 5
  · simp [h5]
  · by_cases h6 : cd_l M c i 0 = 6
    · simp [h6]
    · simp [h5, h6]
theorem lv_onr {l : Int → Int} {n i : Int} (hi : 0 ≤ i ∧ i < n) : 0 ≤ lv_on l n i ∧ lv_on l n i ≤ n := by unfold lv_on; split <;> omega
theorem lv_asr {l : Int → Int} {n : Int} (h : lv_ok l) (hn : 0 ≤ n) : 0 ≤ lv_as l n ∧ lv_as l n ≤ n := by
  obtain ⟨-, -, -, -, h5, h6⟩ := h
  unfold lv_as mw_cl
  split
  · rename_i q
    have := h5 q
    split <;> omega
  · split
    · rename_i q
      have := h6 q
      split <;> omega
    · omega
