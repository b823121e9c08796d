theorem cI_s {M : sm_M} {p : Nat} {f : Nat → Int32} : (sm_cI M p f).1 p = f := sm_up_s
theorem cI_1 {M : sm_M} {p q : Nat} {f : Nat → Int32} (h : q ≠ p) : (sm_cI M p f).1 q = M.1 q := sm_up_n h
theorem mw_w_oc (l : Int → Int) (t : mw_T) : (mw_w l t).2.2.2 = if l 0 = 7 then t.2.2.2 + Int32.ofInt 1 else t.2.2.2 := by
  by_cases h7 : l 0 = 7
  · rw [if_pos h7, mw_w, if_neg (by omega), if_neg (by omega), if_neg (by omega), if_neg (by omega), if_neg (by omega), if_pos h7]
    rfl
  · rw [if_neg h7]
    unfold mw_w
    rw [if_neg h7]
    repeat' split
    all_goals rfl
theorem mw_nxr {l : Int → Int} {n i : Int} {r : Nat → Int32} (hl : mw_ok l) (hi : 0 ≤ i ∧ i < n) : 0 ≤ mw_nx l n i r ∧ mw_nx l n i r ≤ n := by
  obtain ⟨-, -, -, -, h5, h6⟩ := hl
  unfold mw_nx
  split
  · rename_i q
    have := h5 q
    split <;> omega
  · split
    · rename_i q
      have := h6 q.1
      split <;> omega
    · omega
theorem mw_cr {M0 M : sm_M} {t : mw_T} (h : mw_is M0 M t) (f : Nat → Int32) : mw_is M0 (sm_cI M 32 f) (f, t.2) := by
  obtain ⟨rfl, h2, h3, h4⟩ := h
  refine ⟨?_, fun j hj => ?_, fun p h5 h6 h7 h8 => ?_, h4⟩
  · simp [mw_get, cI_s, cI_1]
  · rw [cI_1 (by decide)]; exact h2 j hj
  · rw [cI_1 h6]; exact h3 p h5 h6 h7 h8
theorem mw_cs {M0 M : sm_M} {t : mw_T} (h : mw_is M0 M t) (f : Nat → Int32) : mw_is M0 (sm_cI M 33 f) (t.1, f, t.2.2) := by
  obtain ⟨rfl, h2, h3, h4⟩ := h
  refine ⟨?_, fun j hj => ?_, fun p h5 h6 h7 h8 => ?_, h4⟩
  · simp [mw_get, cI_s, cI_1]
  · rw [cI_1 (by decide)]; exact h2 j hj
  · rw [cI_1 h7]; exact h3 p h5 h6 h7 h8
section
variable {g : sm_G} {M M0 : sm_M}
theorem c_following {t : mw_T} (h : mw_is M0 M t) {c : Nat} (hc : c = 1 ∨ c = 3) {i : Int} (hi : 0 ≤ i ∧ i < 48) (hl : mw_ok (cd_l M0 c i)) : sm_Sm g 37 [.ref 31, .ref c, .int (Int32.ofInt i)] M (fun o M' => o = some (.int (Int32.ofInt (mw_nx (cd_l M0 c i) (cd_n M0 c) i t.1))) ∧ M' = M) := by
  have ei : (Int32.ofInt i).toInt = i := jn_to (by omega) (by omega)
  have er : ∀ k, M.1 32 k = t.1 k := fun k => by rw [← h.1]; rfl
  have en : cd_n M c = cd_n M0 c := by unfold cd_n; rw [mw_n h hc]
  have lr := fun j => @cd_lr M0 c i j
  obtain ⟨⟨a0, a9⟩, -, wa, -, -, -⟩ := hl
  refine sm_entry (Nat.le_of_ble_eq_true rfl) (Nat.le_of_ble_eq_true rfl) ?_
  have yes : (cd_l M0 c i 0 = 5 ∨ (cd_l M0 c i 0 = 6 ∧ ¬ t.1 (cd_l M0 c i 2).toNat = 0)) → sm_Go g 37 (sm_Fn g (fun o M' => o = some (.int (Int32.ofInt (mw_nx (cd_l M0 c i) (cd_n M0 c) i t.1))) ∧ M' = M)) 35 [.ref 31, .ref c, .int (Int32.ofInt i), .null] [] M := by
    intro q
    refine k37_35 hc (fun _ _ _ _ h => h) (k37_40 hc (fun _ _ _ _ h => h) ⟨fun e => absurd e (by decide), fun _ => ⟨by rw [ei]; exact hi, ?_, rfl⟩⟩)
    rw [ei]
    congr 3
    unfold cd_as mw_nx
    simp only [mw_l h hc, en]
    rcases q with q | q
    · rw [q]; rfl
    · rw [if_neg (show ¬ cd_l M0 c i 0 = 5 by omega), if_pos q, q.1]; rfl
  have no : ¬ (cd_l M0 c i 0 = 5 ∨ (cd_l M0 c i 0 = 6 ∧ ¬ t.1 (cd_l M0 c i 2).toNat = 0)) → sm_Go g 37 (sm_Fn g (fun o M' => o = some (.int (Int32.ofInt (mw_nx (cd_l M0 c i) (cd_n M0 c) i t.1))) ∧ M' = M)) 39 [.ref 31, .ref c, .int (Int32.ofInt i), .null] [] M := by
    intro q
    refine k37_39 hc (fun _ _ _ _ h => h) (k37_40 hc (fun _ _ _ _ h => h) ⟨fun _ => ⟨by rw [ei]; exact hi, ?_, rfl⟩, fun e => absurd (by decide) e⟩)
    rw [ei]
    congr 3
    unfold cd_on mw_nx
    simp only [mw_l h hc]
    rw [if_neg (fun z => q (Or.inl z)), if_neg (fun z => q (Or.inl z)), if_neg (fun z => q (Or.inr z))]
  refine k37_0 hc (fun _ _ _ _ h => h) ?_
  rw [ei]
  simp (disch := omega) only [← Int32.toInt_inj, cd_lt, jn_to]
  simp only [mw_l h hc]
  refine ⟨⟨hi.1, hi.2, by omega, by omega⟩, fun q => yes (Or.inl q), fun q => ⟨⟨hi.1, hi.2, by omega, by omega⟩, fun q2 => no (by rintro (z | z); exact q z; exact q2 z.1), fun q2 => ?_⟩⟩
  have ha := wa (Or.inl (by rw [q2]; decide))
  rw [jn_in (by omega) (by omega), jn_cl (by omega) (by omega), er]
  refine ⟨⟨hi.1, hi.2, by omega, by omega⟩, by omega, fun z => no ?_, fun z => yes (Or.inr ⟨q2, fun y => z (by rw [y])⟩)⟩
  rintro (y | y)
  · exact q y
  · exact y.2 (Int32.toInt_inj.mp z)
/-- what a run of the class leaves -/
def mw_fin (M : sm_M) (c : Nat) : Int × mw_T := mw_run (cd_l M c) (cd_n M c) 9849 0 0 (fl_n (M.1 32) 10 (Int32.ofInt 0), fl_n (M.1 33) 10 (Int32.ofInt 0), M.1 34, Int32.ofInt 0)
theorem c_execute {c : Nat} (hc : c = 1 ∨ c = 3) (hn : 0 ≤ cd_n M c ∧ cd_n M c ≤ 48) (hl : ∀ i, 0 ≤ i → i < cd_n M c → mw_ok (cd_l M c i)) : sm_Sm g 36 [.ref 31, .ref c] M (fun o M' => o = none ∧ ∃ M2, mw_is M M2 (mw_fin M c).2 ∧ M' = sm_sI M2 31 4 (sm_z (decide (cd_n M c ≤ (mw_fin M c).1)))) := by
  generalize hR : mw_fin M c = R
  have fin : ∀ (M2 : sm_M) (i : Int) (x3 x4 : Int32), mw_is M M2 R.2 → i = R.1 → 0 ≤ i ∧ i ≤ cd_n M c → sm_Go g 36 (sm_Fn g (fun o M' => o = none ∧ ∃ M2, mw_is M M2 R.2 ∧ M' = sm_sI M2 31 4 (sm_z (decide (cd_n M c ≤ R.1))))) 87 [.ref 31, .ref c, .int (Int32.ofInt i), .int x3, .int x4] [] M2 := by
    intro M2 i x3 x4 h2 hi hr
    refine k36_87 hc (fun _ _ _ _ h => h) ?_
    rw [mw_n h2 hc]
    have e : M.1 c 1 = Int32.ofInt (cd_n M c) := (jn_self _).symm
    rw [e, jn_lt (by omega) (by omega) (by omega) (by omega)]
    refine ⟨fun q => ⟨Or.inl rfl, rfl, M2, h2, ?_⟩, fun q => ⟨Or.inr rfl, rfl, M2, h2, ?_⟩⟩
    · rw [← hi, show decide (cd_n M c ≤ i) = false from decide_eq_false (by omega), ← sm_o0]
    · rw [← hi, show decide (cd_n M c ≤ i) = true from decide_eq_true (by omega), ← sm_o1]
  have loop : ∀ (f : Nat) (i k : Int) (t : mw_T) (M2 : sm_M), f ≤ 9849 → mw_is M M2 t → (0 ≤ i ∧ i ≤ cd_n M c) → (0 ≤ k ∧ k ≤ 200) → (0 ≤ t.2.2.2.toInt ∧ t.2.2.2.toInt ≤ k) → mw_run (cd_l M c) (cd_n M c) f i k t = R → sm_Go g 36 (sm_Fn g (fun o M' => o = none ∧ ∃ M2, mw_is M M2 R.2 ∧ M' = sm_sI M2 31 4 (sm_z (decide (cd_n M c ≤ R.1))))) 28 [.ref 31, .ref c, .int (Int32.ofInt i), .int (Int32.ofInt k), .int (Int32.ofInt (9849 - (f : Int)))] [] M2 := by
    intro f
    induction f with
    | zero =>
      intro i k t M2 hf h2 hi hk ho hR2
      refine k36_28 hc (fun _ _ _ _ h => h) ⟨fun _ => ?_, fun q => absurd ?_ q⟩
      · have e1 : R = (i, t) := hR2.symm
        exact fin M2 i _ _ (by rw [e1]; exact h2) (by rw [e1]) hi
      · rw [jn_le (by omega) (by omega) (by omega) (by omega)]; omega
    | succ f ih =>
      intro i k t M2 hf h2 hi hk ho hR2
      have e : M.1 c 1 = Int32.ofInt (cd_n M c) := (jn_self _).symm
      refine k36_28 hc (fun _ _ _ _ h => h) ⟨fun q => ?_, fun _ => ?_⟩
      · rw [jn_le (by omega) (by omega) (by omega) (by omega)] at q; omega
      · rw [mw_n h2 hc, e, jn_le (by omega) (by omega) (by omega) (by omega)]
        rw [mw_run] at hR2
        refine ⟨fun q => ?_, fun q => ?_⟩
        · rw [if_pos q] at hR2
          exact fin M2 i _ _ (by rw [← hR2]; exact h2) (by rw [← hR2]) hi
        · rw [if_neg q] at hR2
          have hw := hl i hi.1 (by omega)
          have lr := @cd_lr M c i 0
          rw [jn_to (by omega) (by omega)]
          simp (disch := omega) only [jn_to, mw_l h2 hc]
          rw [jn_le (by omega) (by omega) (by omega) (by omega), jn_eq (by omega) (by omega) (by omega) (by omega), jn_add]
          have next : ∀ k', (0 ≤ k' ∧ k' ≤ 200) → k' = (if cd_l M c i 0 < 8 then k + 1 else k) → ¬ (cd_l M c i 0 < 8 ∧ k = 200) → sm_Go g 36 (sm_Fn g (fun o M' => o = none ∧ ∃ M2, mw_is M M2 R.2 ∧ M' = sm_sI M2 31 4 (sm_z (decide (cd_n M c ≤ R.1))))) 68 [.ref 31, .ref c, .int (Int32.ofInt i), .int (Int32.ofInt k'), .int (Int32.ofInt (9849 - ((f + 1 : Nat) : Int)))] [] M2 := by
            intro k' hk' ek' hns
            rw [if_neg hns, ← ek'] at hR2
            refine k36_68 hc (fun _ _ _ _ h => h) ?_
            refine sm_Sm_mono (c_work h2 hc (by omega) hw ho.1) (fun o1 M3 h3 => ?_)
            obtain ⟨rfl, h3⟩ := h3
            refine sm_Sm_mono (c_following h3 hc (by omega) hw) (fun o2 M4 h4 => ?_)
            obtain ⟨rfl, rfl⟩ := h4
            show sm_Go g 36 _ 28 _ _ _
            rw [jn_add, show (9849 - ((f + 1 : Nat) : Int) + 1) = 9849 - (f : Int) by omega]
            refine ih _ _ _ _ (by omega) h3 (mw_nxr hw (by omega)) hk' ?_ hR2
            rw [mw_w_oc]
            split
            · rename_i z
              rw [if_pos (by omega)] at ek'
              have e9 : t.2.2.2 + Int32.ofInt 1 = Int32.ofInt (t.2.2.2.toInt + 1) := by rw [Int32.ofInt_add, jn_self]
              rw [e9, jn_to (by omega) (by omega)]
              omega
            · split at ek' <;> omega
          refine ⟨⟨hi.1, by omega, by omega, by omega⟩, fun q2 => next k hk (by rw [if_neg (by omega)]) (by omega), fun q2 => ⟨fun q3 => next (k + 1) (by omega) (by rw [if_pos (by omega)]) (by omega), fun q3 => ?_⟩⟩
          rw [if_pos (by omega)] at hR2
          exact fin M2 i _ _ (by rw [← hR2]; exact h2) (by rw [← hR2]) hi
  refine sm_entry (Nat.le_of_ble_eq_true rfl) (Nat.le_of_ble_eq_true rfl) ?_
  refine k36_0 hc (fun _ _ _ _ h => h) ?_
  refine sm_Sm_mono (c_fillI (q := 32) (n := 10) (by unfold fi_ok; omega) _) (fun o1 M1 h1 => ?_)
  obtain ⟨rfl, h1⟩ := h1
  refine sm_Sm_mono (c_fillI (q := 33) (n := 10) (by unfold fi_ok; omega) _) (fun o2 M2 h2 => ?_)
  obtain ⟨rfl, h2⟩ := h2
  show sm_Go g 36 _ 28 _ _ _
  have i1 : mw_is M M1 (fl_n (M.1 32) 10 (Int32.ofInt 0), M.1 33, M.1 34, M.1 31 3) := by rw [h1]; exact mw_cr (mw_0 M) _
  have e33 : M1.1 33 = M.1 33 := by rw [h1]; exact cI_1 (by decide)
  have i2 := mw_cs i1 (fl_n (M1.1 33) 10 (Int32.ofInt 0))
  rw [← h2, e33] at i2
  have i3 := mw_c i2 (Int32.ofInt 0)
  exact loop 9849 0 0 _ _ (by omega) i3 (by omega) (by omega) ⟨show 0 ≤ (Int32.ofInt 0).toInt by decide, show (Int32.ofInt 0).toInt ≤ 0 by decide⟩ hR
end
