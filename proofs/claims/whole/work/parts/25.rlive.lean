-- the reference's liveness
def rl_B (M : sm_M) (n v : Int) : Int → Bool := fun i => decide (0 ≤ i) && (decide (i < n) && decide (¬ M.1 41 (60 * i + v).toNat = 0))
def rl_H (M : sm_M) (n v : Int) : Int → Bool := fun i => decide (0 ≤ i) && (decide (i < n) && decide (¬ M.1 42 (60 * i + v).toNat = 0))
theorem rl_B_at {M : sm_M} {n v i : Int} (h : 0 ≤ i ∧ i < n) : rl_B M n v i = decide (¬ M.1 41 (60 * i + v).toNat = 0) := by unfold rl_B; rw [decide_eq_true h.1, decide_eq_true h.2]; rfl
theorem rl_H_at {M : sm_M} {n v i : Int} (h : 0 ≤ i ∧ i < n) : rl_H M n v i = decide (¬ M.1 42 (60 * i + v).toNat = 0) := by unfold rl_H; rw [decide_eq_true h.1, decide_eq_true h.2]; rfl
theorem rl_B_n {M : sm_M} {n v i : Int} (h : n ≤ i) : rl_B M n v i = false := by unfold rl_B; rw [decide_eq_false (show ¬ i < n by omega)]; simp
def rl_ok (l : Int → Int) : Prop := (l 0 = 5 → 0 ≤ l 2) ∧ (l 0 = 6 → 0 ≤ l 3)
theorem rl_to {M : sm_M} {b n i : Int} (hl : rl_ok (rf_L M b i)) (hn : 0 ≤ n) : 0 ≤ rf_to M n (b + i) := by
  unfold rf_to
  split
  · rename_i q; exact hl.1 q
  · split
    · rename_i q; exact hl.2 q
    · exact hn
theorem rl_cm {M : sm_M} {b n i v : Int} (hi : 0 ≤ i ∧ i < n) (hl : rl_ok (rf_L M b i)) : rf_cm M b n i v = (rl_B M n v (lv_on (rf_L M b i) n i) || rl_B M n v (lv_as (rf_L M b i) n)) := by
  unfold rf_cm
  congr 1
  · unfold lv_on
    show (decide (¬ rf_L M b i 0 = 5) && _) = _
    by_cases q : rf_L M b i 0 = 5
    · rw [if_pos q, rl_B_n (Int.le_refl n)]; simp [q]
    · rw [if_neg q, decide_eq_true q]
      by_cases q2 : i + 1 < n
      · rw [decide_eq_true q2, rl_B_at (by omega)]; rfl
      · rw [decide_eq_false q2, rl_B_n (by omega)]; rfl
  · have ht : rf_to M n (b + i) = if rf_L M b i 0 = 5 then rf_L M b i 2 else if rf_L M b i 0 = 6 then rf_L M b i 3 else n := rfl
    have h0 := rl_to hl (show 0 ≤ n by omega)
    have ha : lv_as (rf_L M b i) n = mw_cl n (rf_to M n (b + i)) := by
      rw [ht]
      unfold lv_as
      split
      · rfl
      · split
        · rfl
        · unfold mw_cl; simp
    rw [ha]
    generalize rf_to M n (b + i) = t at *
    unfold mw_cl
    by_cases q : t < n
    · rw [if_neg (by omega), decide_eq_true q, rl_B_at (by omega)]; rfl
    · rw [decide_eq_false q]
      split
      · rw [rl_B_n (Int.le_refl n)]; rfl
      · rw [rl_B_n (by omega)]; rfl
def rl_R (Mv M : sm_M) (v : Nat) : Prop := M.2 = Mv.2 ∧ (∀ p, p ≠ 41 → p ≠ 42 → M.1 p = Mv.1 p) ∧ ∀ k, k % 60 ≠ v → M.1 42 k = Mv.1 42 k
theorem rl_L {Mv M : sm_M} {v : Nat} (h : rl_R Mv M v) {b : Int} (i : Int) {j : Int} (hj : j.toNat < 5) : rf_L M b i j = rf_L Mv b i j := by
  unfold rf_L rf_l
  rw [h.2.1 _ (by omega) (by omega)]
def rl_P (Mv : sm_M) (b n : Int) (v : Nat) (M : sm_M) : Prop := rl_R Mv M v ∧ (∀ i, 0 ≤ i → i < n → (M.1 42 (60 * i + v).toNat = 0 ∨ M.1 42 (60 * i + v).toNat = 1)) ∧
  (∀ i, 0 ≤ i → i < n → rl_B M n v i = (lv_us (rf_L Mv b i) v || (rl_H M n v i && !lv_df (rf_L Mv b i) v))) ∧
  (∀ i, 0 ≤ i → i < n → rl_H M n v i = true → (rl_B M n v (lv_on (rf_L Mv b i) n i) || rl_B M n v (lv_as (rf_L Mv b i) n)) = true) ∧
  (∀ S, lv_cl (rf_L Mv b) n v S → lv_le (rl_B M n v) S)
def rl_fix (Mv : sm_M) (b n : Int) (v : Nat) (M : sm_M) : Prop := ∀ i, 0 ≤ i → i < n → (rl_B M n v (lv_on (rf_L Mv b i) n i) || rl_B M n v (lv_as (rf_L Mv b i) n)) = true → rl_H M n v i = true
theorem rl_Is {Mv : sm_M} {b n : Int} {v : Nat} {M : sm_M} (h : rl_P Mv b n v M) (hf : rl_fix Mv b n v M) : lv_Is (rf_L Mv b) n v (rl_B M n v) ∧ ∀ i : Int, 0 ≤ i → i < n → rl_H M n v i = (rl_B M n v (lv_on (rf_L Mv b i) n i) || rl_B M n v (lv_as (rf_L Mv b i) n)) := by
  obtain ⟨h0, -, h1, h2, h3⟩ := h
  have hH : ∀ i : Int, 0 ≤ i → i < n → rl_H M n v i = (rl_B M n v (lv_on (rf_L Mv b i) n i) || rl_B M n v (lv_as (rf_L Mv b i) n)) := by
    intro i a1 a2
    have p1 := h2 i a1 a2
    have p2 := hf i a1 a2
    cases hx : rl_H M n v i <;> cases hy : (rl_B M n v (lv_on (rf_L Mv b i) n i) || rl_B M n v (lv_as (rf_L Mv b i) n)) <;> simp_all
  refine ⟨⟨⟨fun i hi => ?_, fun i a1 a2 hfi => ?_⟩, h3⟩, hH⟩
  · unfold rl_B at hi
    simp only [Bool.and_eq_true, decide_eq_true_eq] at hi
    exact ⟨hi.1, hi.2.1⟩
  · rw [h1 i a1 a2, hH i a1 a2]
    unfold lv_f at hfi
    rw [Bool.and_comm]
    exact hfi
theorem rl_cl {n : Int} {a b : Int → Bool} (h : ∀ i, 0 ≤ i → i < n → a i = b i) : lv_ct a n.toNat = lv_ct b n.toNat := by
  have : ∀ k : Nat, (k : Int) ≤ n → lv_ct a k = lv_ct b k := by
    intro k
    induction k with
    | zero => intro _; rfl
    | succ k ih => intro hk; unfold lv_ct; rw [ih (by omega), h k (by omega) (by omega)]
  by_cases h0 : 0 ≤ n
  · exact this n.toNat (by omega)
  · rw [show n.toNat = 0 by omega]; rfl
/-- a line is found: its behind becomes true, its before too where it doesn't define -/
theorem rl_set {Mv : sm_M} {b n : Int} {v : Nat} {M : sm_M} (hv : v < 60) (h : rl_P Mv b n v M) {i : Int} (hi : 0 ≤ i ∧ i < n) (hH : rl_H M n v i = false)
    (hc : (rl_B M n v (lv_on (rf_L Mv b i) n i) || rl_B M n v (lv_as (rf_L Mv b i) n)) = true) {y : Int32} (hy : y = sm_z (rl_B M n v i || !lv_df (rf_L Mv b i) v)) :
    rl_P Mv b n v (sm_sI (sm_sI M 42 (60 * i + v).toNat 1) 41 (60 * i + v).toNat y) ∧ lv_ct (rl_H M n v) n.toNat + 1 ≤ lv_ct (rl_H (sm_sI (sm_sI M 42 (60 * i + v).toNat 1) 41 (60 * i + v).toNat y) n v) n.toNat := by
  generalize hM' : sm_sI (sm_sI M 42 (60 * i + v).toNat 1) 41 (60 * i + v).toNat y = M'
  obtain ⟨hR, hz, h1, h2, h3⟩ := h
  have e42 : M'.1 42 = upd (M.1 42) (60 * i + v).toNat 1 := by rw [← hM', sI_1 (by decide), sI_s]
  have e41 : M'.1 41 = upd (M.1 41) (60 * i + v).toNat y := by rw [← hM', sI_s, sI_1 (by decide)]
  have ne : ∀ j : Int, 0 ≤ j → j ≠ i → (60 * j + v).toNat ≠ (60 * i + v).toNat := fun j h0 hj => by omega
  have bB : ∀ j, j ≠ i → rl_B M' n v j = rl_B M n v j := fun j hj => by
    unfold rl_B
    by_cases h0 : 0 ≤ j
    · rw [e41, pk_un (ne j h0 hj)]
    · rw [decide_eq_false h0]; rfl
  have bH : ∀ j, j ≠ i → rl_H M' n v j = rl_H M n v j := fun j hj => by
    unfold rl_H
    by_cases h0 : 0 ≤ j
    · rw [e42, pk_un (ne j h0 hj)]
    · rw [decide_eq_false h0]; rfl
  have bBi : rl_B M' n v i = (rl_B M n v i || !lv_df (rf_L Mv b i) v) := by
    rw [rl_B_at hi, e41, pk_us, hy]
    cases (rl_B M n v i || !lv_df (rf_L Mv b i) v) <;> decide
  have bHi : rl_H M' n v i = true := by
    rw [rl_H_at hi, e42, pk_us]; decide
  have le : lv_le (rl_B M n v) (rl_B M' n v) := by
    intro j hj
    by_cases e : j = i
    · rw [e] at hj ⊢; rw [bBi, hj]; rfl
    · rw [bB j e]; exact hj
  have leH : lv_le (rl_H M n v) (rl_H M' n v) := by
    intro j hj
    by_cases e : j = i
    · rw [e]; exact bHi
    · rw [bH j e]; exact hj
  refine ⟨⟨⟨?_, fun p p1 p2 => ?_, fun k hk => ?_⟩, fun j j1 j2 => ?_, fun j j1 j2 => ?_, fun j j1 j2 hj => ?_, fun S hS j hj => ?_⟩, ?_⟩
  · rw [← hM']; exact hR.1
  · rw [← hM', sI_1 p1, sI_1 p2]; exact hR.2.1 p p1 p2
  · rw [e42, pk_un (by omega)]; exact hR.2.2 k hk
  · rw [e42]
    by_cases e : j = i
    · rw [e, pk_us]; exact Or.inr rfl
    · rw [pk_un (ne j j1 e)]; exact hz j j1 j2
  · by_cases e : j = i
    · subst e
      rw [bBi, bHi, h1 j j1 j2, hH]; simp
    · rw [bB j e, bH j e]; exact h1 j j1 j2
  · have : (rl_B M n v (lv_on (rf_L Mv b j) n j) || rl_B M n v (lv_as (rf_L Mv b j) n)) = true := by
      by_cases e : j = i
      · rw [e]; exact hc
      · rw [bH j e] at hj; exact h2 j j1 j2 hj
    rw [Bool.or_eq_true] at this ⊢
    rcases this with t | t
    · exact Or.inl (le _ t)
    · exact Or.inr (le _ t)
  · by_cases e : j = i
    · rw [e] at hj ⊢
      rw [bBi, Bool.or_eq_true] at hj
      rcases hj with t | t
      · exact h3 S hS i t
      · refine hS.2 i hi.1 hi.2 ?_
        refine lv_f_mono (h3 S hS) ?_
        unfold lv_f
        rw [hc, t]; simp
    · rw [bB j e] at hj; exact h3 S hS j hj
  · exact lv_ct_lt leH (i := i.toNat) (by rw [show ((i.toNat : Nat) : Int) = i by omega]; exact hH) (by rw [show ((i.toNat : Nat) : Int) = i by omega]; exact bHi) n.toNat (by omega)
