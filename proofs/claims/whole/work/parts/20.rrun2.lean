theorem fl_s {f : Nat → Int32} {k : Nat} {x : Int32} : upd (fl_n f k x) k x = fl_n f (k + 1) x := by
  funext j
  unfold upd fl_n
  by_cases hj : j = k
  · subst hj; simp
  · by_cases h2 : j < k
    · rw [if_neg hj, if_pos h2, if_pos (by omega)]
    · rw [if_neg hj, if_neg h2, if_neg (by omega)]
theorem fl_0 {α : Type} {f : Nat → α} {x : α} : fl_n f 0 x = f := by funext j; simp [fl_n]
/-- what a run of the reference leaves: line b on, n lines -/
def rw_fin (M : sm_M) (b n : Int) : Int × mw_T := mw_run (rf_L M b) n 9849 0 0 (fl_n (M.1 56) 10 (Int32.ofInt 0), fl_n (M.1 57) 10 (Int32.ofInt 0), M.1 58, Int32.ofInt 0)
section
variable {g : sm_G} {M : sm_M}
theorem c_rrunA {x : Int32} (h : x.toInt < 0 ∨ 1 < x.toInt) : sm_Sm g 117 [.ref 35, .int x] M (fun o M' => o = some (.int (Int32.ofInt 0)) ∧ M' = sm_sI M 35 0 (Int32.ofInt 1)) := by
  refine sm_entry (Nat.le_of_ble_eq_true rfl) (Nat.le_of_ble_eq_true rfl) ?_
  have b1 : sm_Go g 117 (sm_Fn g (fun o M' => o = some (.int (Int32.ofInt 0)) ∧ M' = sm_sI M 35 0 (Int32.ofInt 1))) 10 [.ref 35, .int x, .null, .null, .null, .null, .null, .null] [.ref 35] M := by
    refine k117_10 (fun _ _ _ _ h => h) (k117_31 (fun _ _ _ _ h => h) ⟨fun q => absurd q ?_, fun q => ⟨rfl, rfl⟩⟩)
    simp [upd]
  refine k117_0 (fun _ _ _ _ h => h) ?_
  simp (disch := omega) only [Int32.le_iff_toInt_le, Int32.lt_iff_toInt_lt, jn_to, jt_0]
  exact ⟨fun _ => b1, fun q => ⟨fun q2 => by omega, fun _ => b1⟩⟩
theorem c_rrunB (h : M.1 35 24 = 0) : sm_Sm g 117 [.ref 35, .int (Int32.ofInt 1)] M (fun o M' => o = some (.int (Int32.ofInt 0)) ∧ M' = sm_sI M 35 0 (Int32.ofInt 2)) := by
  refine sm_entry (Nat.le_of_ble_eq_true rfl) (Nat.le_of_ble_eq_true rfl) ?_
  refine k117_0 (fun _ _ _ _ h => h) ⟨fun q => absurd q (by decide), fun _ => ⟨fun _ => ⟨fun q => absurd rfl q, fun _ => ⟨fun q => absurd h q, fun _ => ?_⟩⟩, fun q => absurd (by decide) q⟩⟩
  refine k117_31 (fun _ _ _ _ h => h) ⟨fun q => absurd q ?_, fun q => ⟨rfl, rfl⟩⟩
  simp [upd]
set_option maxHeartbeats 1000000 in
theorem c_rrunC {x b n : Int} (hx : (x = 0 ∧ b = 0 ∧ n = (M.1 35 6).toInt) ∨ (x = 1 ∧ b = 16 ∧ n = (M.1 35 7).toInt ∧ ¬ M.1 35 24 = 0)) (hn : 0 ≤ n ∧ n ≤ 48) (hl : ∀ i, 0 ≤ i → i < n → mw_ok (rf_L M b i)) :
    sm_Sm g 117 [.ref 35, .int (Int32.ofInt x)] M (fun o M' => o = some (.int (rw_fin M b n).2.2.2.2) ∧ ∃ M2, rw_is (sm_sI M 35 0 (Int32.ofInt 0)) M2 (rw_fin M b n).2 ∧ M' = sm_sI M2 35 34 (sm_z (decide (n ≤ (rw_fin M b n).1)))) := by
  generalize hR : rw_fin M b n = R
  generalize hQ : (fun (o : Option Value) (M' : sm_M) => o = some (.int R.2.2.2.2) ∧ ∃ M2, rw_is (sm_sI M 35 0 (Int32.ofInt 0)) M2 R.2 ∧ M' = sm_sI M2 35 34 (sm_z (decide (n ≤ R.1)))) = Q
  generalize hM1 : sm_sI M 35 0 (Int32.ofInt 0) = M1 at hQ
  have hb : b = 0 ∨ b = 16 := by omega
  have eL : rf_L M1 b = rf_L M b := by
    funext i j
    unfold rf_L rf_l
    rw [← hM1, sI_1 (by omega)]
  have fin : ∀ (M2 : sm_M) (i : Int) (x5 : Int32), rw_is M1 M2 R.2 → mw_cl n i = R.1 → 0 ≤ i → i < 2147483648 → sm_Go g 117 (sm_Fn g Q) 362 [.ref 35, .int (Int32.ofInt x), .int (Int32.ofInt b), .int (Int32.ofInt n), .int (Int32.ofInt i), .int x5, .null, .null] [] M2 := by
    intro M2 i x5 h2 hi h0 h1
    refine k117_362 (fun _ _ _ _ h => h) ?_
    rw [jn_lt (by omega) (by omega) (by omega) (by omega), ← hQ]
    have eo : M2.1 35 33 = R.2.2.2.2 := by rw [← h2.1]; rfl
    refine ⟨fun q => ⟨Or.inl rfl, ?_, M2, h2, ?_⟩, fun q => ⟨Or.inr rfl, ?_, M2, h2, ?_⟩⟩
    · rw [← eo]; simp [upd]
    · rw [← hi, show decide (n ≤ mw_cl n i) = false from decide_eq_false (by unfold mw_cl; split <;> omega), ← sm_o0]
    · rw [← eo]; simp [upd]
    · rw [← hi, show decide (n ≤ mw_cl n i) = true from decide_eq_true (by unfold mw_cl; split <;> omega), ← sm_o1]
  have init : ∀ (d k : Nat) (M2 : sm_M), k + d = 10 → rw_is M1 M2 (fl_n (M.1 56) k (Int32.ofInt 0), fl_n (M.1 57) k (Int32.ofInt 0), M.1 58, M.1 35 33) → sm_Go g 117 (sm_Fn g Q) 73 [.ref 35, .int (Int32.ofInt x), .int (Int32.ofInt b), .int (Int32.ofInt n), .int (Int32.ofInt k), .null, .null, .null] [] M2 := by
    intro d
    induction d with
    | zero =>
      intro k M2 hk h2
      refine k117_73 (fun _ _ _ _ h => h) ⟨fun _ => ?_, fun q => absurd ?_ q⟩
      · have h3 := rw_c h2 (Int32.ofInt 0)
        rw [show k = 10 by omega] at h3
        refine c_rloop hb hn (by rw [eL]; exact hl) fin 9849 0 0 _ _ h3 (by omega) (by omega) ⟨show 0 ≤ (Int32.ofInt 0).toInt by decide, show (Int32.ofInt 0).toInt ≤ 0 by decide⟩ ?_ ?_
        · have : mw_cl n 0 = 0 := by unfold mw_cl; split <;> omega
          omega
        · have : mw_cl n 0 = 0 := by unfold mw_cl; split <;> omega
          rw [this, eL]
          exact hR
      · rw [jn_le (by omega) (by omega) (by omega) (by omega)]; omega
    | succ d ih =>
      intro k M2 hk h2
      refine k117_73 (fun _ _ _ _ h => h) ⟨fun q => ?_, fun _ => ?_⟩
      · rw [jn_le (by omega) (by omega) (by omega) (by omega)] at q; omega
      · rw [jn_in (by omega) (by omega), jn_cl (by omega) (by omega), jn_add]
        refine ⟨by omega, by omega, ih (k + 1) _ (by omega) ?_⟩
        have h3 := rw_s (rw_r h2 k (Int32.ofInt 0)) k (Int32.ofInt 0)
        simp only [fl_s] at h3
        exact h3
  have i0 : rw_is M1 M1 (fl_n (M.1 56) 0 (Int32.ofInt 0), fl_n (M.1 57) 0 (Int32.ofInt 0), M.1 58, M.1 35 33) := by
    have h3 := rw_0 M1
    rw [fl_0, fl_0]
    have e : rw_get M1 = (M.1 56, M.1 57, M.1 58, M.1 35 33) := by
      rw [← hM1]
      simp [rw_get, sI_1, sI_s, upd]
    rw [← e]
    exact h3
  have s69 := init 10 0 M1 (by omega) i0
  have s53 : sm_Go g 117 (sm_Fn g Q) 53 [.ref 35, .int (Int32.ofInt x), .null, .null, .null, .null, .null, .null] [.int (Int32.ofInt b)] M1 := by
    refine k117_53 (fun _ _ _ _ h => h) ⟨fun q => k117_69 (fun _ _ _ _ h => h) ?_, fun q => k117_69 (fun _ _ _ _ h => h) ?_⟩
    · have h1 : x = 1 ∧ b = 16 ∧ n = (M.1 35 7).toInt := by
        rcases hx with h | h
        · exact absurd (by rw [h.1]; rfl) q
        · exact ⟨h.1, h.2.1, h.2.2.1⟩
      have e : M1.1 35 7 = Int32.ofInt n := by rw [h1.2.2, jn_self, ← hM1, sI_s]; simp [upd]
      rw [e]
      exact s69
    · have h1 : n = (M.1 35 6).toInt := by
        rcases hx with h | h
        · exact h.2.2
        · rw [h.1] at q; exact absurd q (by decide)
      have e : M1.1 35 6 = Int32.ofInt n := by rw [h1, jn_self, ← hM1, sI_s]; simp [upd]
      rw [e]
      exact s69
  have s31 : sm_Go g 117 (sm_Fn g Q) 31 [.ref 35, .int (Int32.ofInt x), .null, .null, .null, .null, .null, .null] [.int (Int32.ofInt 0), .ref 35] M := by
    refine k117_31 (fun _ _ _ _ h => h) ⟨fun _ => ?_, fun q => absurd (by simp [upd]) q⟩
    rw [hM1]
    refine ⟨fun q => ?_, fun q => ?_⟩
    · have h1 : b = 16 := by
        rcases hx with h | h
        · exact absurd (by rw [h.1]; rfl) q
        · exact h.2.1
      rw [h1] at s53
      exact s53
    · have h1 : b = 0 := by
        rcases hx with h | h
        · exact h.2.1
        · rw [h.1] at q; exact absurd q (by decide)
      rw [h1] at s53
      exact s53
  refine sm_entry (Nat.le_of_ble_eq_true rfl) (Nat.le_of_ble_eq_true rfl) ?_
  refine k117_0 (fun _ _ _ _ h => h) ?_
  have hx2 : x = 0 ∨ x = 1 := by omega
  refine ⟨fun q => ?_, fun _ => ⟨fun _ => ⟨fun _ => k117_30 (fun _ _ _ _ h => h) s31, fun q => ⟨fun _ => k117_30 (fun _ _ _ _ h => h) s31, fun q2 => ?_⟩⟩, fun q => ?_⟩⟩
  · rw [jn_0, jn_lt (by omega) (by omega) (by omega) (by omega)] at q; omega
  · rw [jn_eq (by omega) (by omega) (by omega) (by omega)] at q
    rcases hx with h | h
    · omega
    · exact absurd q2 h.2.2.2
  · rw [jn_le (by omega) (by omega) (by omega) (by omega)] at q; omega
end
