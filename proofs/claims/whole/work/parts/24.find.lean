/-- what Liveness.find leaves: a line's set behind it, bit by bit, out of the least column -/
def fd_post (M0 : sm_M) (u c : Nat) (n : Int) (M' : sm_M) : Prop :=
  M'.1 = M0.1 ∧ (∀ p, p ≠ u + 1 → p ≠ u + 2 → M'.2 p = M0.2 p) ∧ ∀ v : Nat, v < 64 → ∃ col, lv_Is (cd_l M0 c) n v col ∧ ∀ i : Nat, (i : Int) < n → bs_t (M'.2 (u + 1) i) v = (col (lv_on (cd_l M0 c i) n i) || col (lv_as (cd_l M0 c i) n))
def fd_K (M0 : sm_M) (u c : Nat) (n : Int) (p : Nat) (M : sm_M) (x : Int32) : Prop :=
  M.1 = M0.1 ∧ (∀ p, p ≠ u + 1 → p ≠ u + 2 → M.2 p = M0.2 p) ∧ M.2 (u + 2) n.toNat = Int64.ofNat 0 ∧ (∀ v : Nat, v < 64 → gb_col M u n v = lv_it (cd_l M0 c) n v p) ∧
  ((x = 1 ∧ p ≤ 48) ∨ (x = 0 ∧ ∃ q, p = q + 1 ∧ (∀ v : Nat, v < 64 → lv_it (cd_l M0 c) n v (q + 1) = lv_it (cd_l M0 c) n v q) ∧ ∀ i : Nat, (i : Int) < n → M.2 (u + 1) i = M.2 (u + 2) (lv_on (cd_l M0 c i) n i).toNat ||| M.2 (u + 2) (lv_as (cd_l M0 c i) n).toNat))
theorem fd_done {M0 : sm_M} {u c : Nat} {n : Int} {p : Nat} {M : sm_M} (hn2 : 0 ≤ n ∧ n ≤ 48) (hl : ∀ i, 0 ≤ i → i < n → lv_ok (cd_l M0 c i)) (h : fd_K M0 u c n p M 0) : fd_post M0 u c n M := by
  obtain ⟨h1, h2, h3, h4, h5⟩ := h
  rcases h5 with ⟨h5, -⟩ | ⟨-, q, rfl, h6, h7⟩
  · exact absurd h5 (by decide)
  refine ⟨h1, h2, fun v hv => ⟨lv_it (cd_l M0 c) n v q, lv_it_Is hn2.1 (h6 v hv), fun i hi => ?_⟩⟩
  have e : gb_col M u n v = lv_it (cd_l M0 c) n v q := by rw [h4 v hv, h6 v hv]
  rw [h7 i hi, bs_or, ← e]
  have cb : ∀ j : Int, 0 ≤ j ∧ j ≤ n → bs_t (M.2 (u + 2) j.toNat) v = gb_col M u n v j := fun j hj => by
    unfold gb_col
    by_cases e : j < n
    · rw [decide_eq_true hj.1, decide_eq_true e]; rfl
    · rw [decide_eq_false e, show j = n by omega, h3, bs_0]; simp
  rw [cb _ (lv_onr (by omega)), cb _ (lv_asr (hl i (by omega) hi) (by omega))]
section
variable {g : sm_G} {M0 : sm_M}
theorem c_find {u c : Nat} (hc : (u = 5 ∧ c = 1) ∨ (u = 9 ∧ c = 23)) {n : Int} (hn : cd_n M0 c = n) (hn2 : 0 ≤ n ∧ n ≤ 48) (hl : ∀ i, 0 ≤ i → i < n → lv_ok (cd_l M0 c i)) : sm_Sm g 33 [.ref u, .ref c] M0 (fun o M' => o = none ∧ fd_post M0 u c n M') := by
  have loop : ∀ (d p : Nat) (M : sm_M) (x : Int32), p + d = 49 → fd_K M0 u c n p M x → sm_Go g 33 (sm_Fn g (fun o M' => o = none ∧ fd_post M0 u c n M')) 12 [.ref u, .ref c, .int x, .int (Int32.ofInt (p : Int))] [] M := by
    intro d
    induction d with
    | zero =>
      intro p M x hp hK
      have hx : x = 0 := by
        rcases hK.2.2.2.2 with h | h
        · omega
        · exact h.1
      subst hx
      refine k33_12 hc (fun _ _ _ _ h => h) ⟨fun _ => ⟨rfl, fd_done hn2 hl hK⟩, fun q => absurd ?_ q⟩
      rw [jn_lt (by omega) (by omega) (by omega) (by omega)]; omega
    | succ d ih =>
      intro p M x hp hK
      refine k33_12 hc (fun _ _ _ _ h => h) ⟨fun q => ?_, fun _ => ⟨fun q => ⟨rfl, fd_done hn2 hl (by rw [q] at hK; exact hK)⟩, fun q => ?_⟩⟩
      · rw [jn_lt (by omega) (by omega) (by omega) (by omega)] at q; omega
      · obtain ⟨h1, h2, h3, h4, h5⟩ := hK
        have el : cd_l M c = cd_l M0 c := cd_l_1 h1
        have en : cd_n M c = n := by rw [cd_n, h1, ← cd_n, hn]
        refine sm_Sm_mono (c_goBack hc en hn2 (by rw [el]; exact hl) h3) (fun o M2 hJ => ?_)
        obtain ⟨r, rfl, hJ⟩ := hJ
        show sm_Go g 33 _ 12 _ _ _
        rw [jn_add, show (p : Int) + 1 = ((p + 1 : Nat) : Int) by omega]
        refine ih (p + 1) M2 r (by omega) ?_
        obtain ⟨j1, j2, j3, j4, j5⟩ := hJ
        rw [el] at j4 j5
        have hcol : ∀ v : Nat, v < 64 → gb_col M2 u n v = lv_it (cd_l M0 c) n v (p + 1) := fun v hv => by
          have := j4 v hv
          rw [h4 v hv] at this
          exact this
        refine ⟨j1.trans h1, fun q hq1 hq2 => (j2 q hq1 hq2).trans (h2 q hq1 hq2), by rw [j3 n.toNat (Or.inr (by omega)), h3], hcol, ?_⟩
        rcases j5 with ⟨rfl, j6, j7⟩ | ⟨rfl, i, i1, i2, i3⟩
        · refine Or.inr ⟨rfl, p, rfl, fun v hv => ?_, fun i hi => ?_⟩
          · rw [← hcol v hv, ← h4 v hv]
            unfold gb_col
            rw [j6]
          · rw [j7 i (by omega) hi, j6]
        · refine Or.inl ⟨rfl, ?_⟩
          false_or_by_contra
          rename_i hgt
          have hp48 : p = 48 := by omega
          subst hp48
          refine i3 (bs_ext fun v hv => ?_)
          have e1 := hcol v hv
          have e0 := h4 v hv
          rw [lv_it_48 hn2] at e1
          have e2 : gb_col M2 u n v i = gb_col M u n v i := by rw [e1, e0]
          unfold gb_col at e2
          rw [decide_eq_true (by omega : (0 : Int) ≤ i), decide_eq_true i2, show ((i : Int)).toNat = i by omega] at e2
          exact e2
  refine sm_entry (Nat.le_of_ble_eq_true rfl) (Nat.le_of_ble_eq_true rfl) ?_
  refine k33_0 hc (fun _ _ _ _ h => h) ?_
  refine sm_Sm_mono (c_fillL (q := u + 2) (n := 49) (by unfold fj_ok; omega) _) (fun o M1 h1 => ?_)
  obtain ⟨rfl, h1⟩ := h1
  show sm_Go g 33 _ 12 _ _ _
  have ez : ∀ j : Nat, j < 49 → M1.2 (u + 2) j = Int64.ofNat 0 := fun j hj => by
    rw [h1]
    show sm_up _ _ _ _ _ = _
    rw [sm_up_s]
    simp [fl_n, hj]
  refine loop 49 0 M1 _ (by omega) ⟨by rw [h1]; rfl, fun p hp1 hp2 => ?_, ez _ (by omega), fun v hv => ?_, Or.inl ⟨by decide, by omega⟩⟩
  · rw [h1]
    show sm_up _ _ _ _ = _
    rw [sm_up_n hp2]
  · funext i
    show gb_col M1 u n v i = false
    unfold gb_col
    by_cases h0 : 0 ≤ i
    · by_cases hi : i < n
      · rw [ez _ (by omega), bs_0]; simp
      · rw [decide_eq_false hi]; simp
    · rw [decide_eq_false h0]; rfl
end
