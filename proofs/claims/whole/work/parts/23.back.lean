-- a pass backwards
def gb_col (M : sm_M) (u : Nat) (n : Int) (v : Nat) : Int → Bool := fun i => decide (0 ≤ i) && (decide (i < n) && bs_t (M.2 (u + 2) i.toNat) v)
def gb_J (M0 : sm_M) (u c : Nat) (n : Int) (k : Nat) (M : sm_M) (x : Int32) : Prop :=
  M.1 = M0.1 ∧ (∀ p, p ≠ u + 1 → p ≠ u + 2 → M.2 p = M0.2 p) ∧ (∀ j : Nat, (j < k ∨ n ≤ (j : Int)) → M.2 (u + 2) j = M0.2 (u + 2) j) ∧
  (∀ v : Nat, v < 64 → lv_pC (cd_l M0 c) n v k (gb_col M u n v) = lv_pC (cd_l M0 c) n v n.toNat (gb_col M0 u n v)) ∧
  ((x = 0 ∧ M.2 (u + 2) = M0.2 (u + 2) ∧ ∀ i : Nat, k ≤ i → (i : Int) < n → M.2 (u + 1) i = M0.2 (u + 2) (lv_on (cd_l M0 c i) n i).toNat ||| M0.2 (u + 2) (lv_as (cd_l M0 c i) n).toNat) ∨ (x = 1 ∧ ∃ i : Nat, k ≤ i ∧ (i : Int) < n ∧ M.2 (u + 2) i ≠ M0.2 (u + 2) i))
def gb_B (M0 : sm_M) (u c : Nat) (n : Int) (k : Nat) (M : sm_M) : Int64 := M.2 (u + 2) (lv_on (cd_l M0 c k) n k).toNat ||| M.2 (u + 2) (lv_as (cd_l M0 c k) n).toNat
def gb_S (M0 : sm_M) (u c : Nat) (n : Int) (k : Nat) (M : sm_M) : Int64 := cd_us M0 c k ||| (gb_B M0 u c n k M &&& (cd_df M0 c k ^^^ Int64.ofNat 18446744073709551615))
theorem gb_bit {M0 : sm_M} {u c : Nat} {n : Int} {k : Nat} {M : sm_M} {x : Int32} (h : gb_J M0 u c n (k + 1) M x) (hk : (k : Int) < n) (hl : lv_ok (cd_l M0 c k)) (hz : M0.2 (u + 2) n.toNat = Int64.ofNat 0) {v : Nat} (hv : v < 64) : bs_t (gb_S M0 u c n k M) v = lv_f (cd_l M0 c) n v k (gb_col M u n v) := by
  have hz2 : ∀ j : Int, j = n → bs_t (M.2 (u + 2) j.toNat) v = false := fun j hj => by
    rw [hj, h.2.2.1 n.toNat (Or.inr (by omega)), hz, bs_0]
  have cb : ∀ j : Int, 0 ≤ j ∧ j ≤ n → bs_t (M.2 (u + 2) j.toNat) v = gb_col M u n v j := fun j hj => by
    unfold gb_col
    by_cases e : j < n
    · rw [decide_eq_true hj.1, decide_eq_true e]; rfl
    · rw [decide_eq_false e, hz2 j (by omega)]; simp
  have ho := lv_onr (l := cd_l M0 c k) (n := n) (i := k) (by omega)
  have ha := lv_asr hl (n := n) (by omega)
  unfold gb_S gb_B lv_f
  rw [bs_or, bs_and, bs_or, bs_not _ hv, lv_bus hl hv, lv_bdf hl hv, cb _ ho, cb _ ha, Bool.and_comm (!lv_df (cd_l M0 c k) v)]
theorem gb_step {M0 : sm_M} {u c : Nat} {n : Int} {k : Nat} {M : sm_M} {x y : Int32} (h : gb_J M0 u c n (k + 1) M x) (hk : (k : Int) < n) (hl : lv_ok (cd_l M0 c k)) (hz : M0.2 (u + 2) n.toNat = Int64.ofNat 0)
    (hy : (y = 1 ∧ (¬ x = 0 ∨ gb_S M0 u c n k M ≠ M.2 (u + 2) k)) ∨ (y = 0 ∧ x = 0 ∧ gb_S M0 u c n k M = M.2 (u + 2) k)) : gb_J M0 u c n k (sm_sL (sm_sL M (u + 1) k (gb_B M0 u c n k M)) (u + 2) k (gb_S M0 u c n k M)) y := by
  have hb := fun v hv => gb_bit h hk hl hz (v := v) hv
  obtain ⟨h1, h2, h3, h4, h5⟩ := h
  have e2 : (sm_sL (sm_sL M (u + 1) k (gb_B M0 u c n k M)) (u + 2) k (gb_S M0 u c n k M)).2 (u + 2) = vp_updL (M.2 (u + 2)) k (gb_S M0 u c n k M) := by rw [sL_s, sL_2 (by omega)]
  have e1 : (sm_sL (sm_sL M (u + 1) k (gb_B M0 u c n k M)) (u + 2) k (gb_S M0 u c n k M)).2 (u + 1) = vp_updL (M.2 (u + 1)) k (gb_B M0 u c n k M) := by rw [sL_2 (by omega), sL_s]
  have hk0 : M.2 (u + 2) k = M0.2 (u + 2) k := h3 k (Or.inl (by omega))
  refine ⟨h1, fun p hp1 hp2 => ?_, fun j hj => ?_, fun v hv => ?_, ?_⟩
  · rw [sL_2 hp2, sL_2 hp1]; exact h2 p hp1 hp2
  · rw [e2, pk_uLn (by omega)]; exact h3 j (by omega)
  · rw [← h4 v hv]
    show lv_pC _ _ _ k _ = lv_pC _ _ _ k (lv_st (cd_l M0 c) n v k (gb_col M u n v))
    congr 1
    funext i
    unfold lv_st
    by_cases ei : i = k
    · subst ei
      rw [if_pos rfl, ← hb v hv]
      unfold gb_col
      rw [e2, decide_eq_true (by omega : (0 : Int) ≤ k), decide_eq_true hk, show ((k : Int)).toNat = k by omega, pk_uLs]
      rfl
    · rw [if_neg ei]
      unfold gb_col
      rw [e2]
      by_cases hi : 0 ≤ i
      · rw [pk_uLn (by omega)]
      · rw [decide_eq_false hi]; rfl
  · rw [e2, e1]
    rcases hy with ⟨rfl, hy⟩ | ⟨rfl, hx, hs⟩
    · refine Or.inr ⟨rfl, ?_⟩
      rcases h5 with ⟨rfl, h6, -⟩ | ⟨-, i, hi1, hi2, hi3⟩
      · rcases hy with hy | hy
        · exact absurd rfl hy
        · exact ⟨k, Nat.le_refl _, hk, by rw [pk_uLs, ← hk0]; exact hy⟩
      · exact ⟨i, by omega, hi2, by rw [pk_uLn (by omega)]; exact hi3⟩
    · refine Or.inl ⟨rfl, ?_⟩
      rcases h5 with ⟨-, h6, h7⟩ | ⟨h6, -⟩
      · refine ⟨?_, fun i hi1 hi2 => ?_⟩
        · funext j
          by_cases e : j = k
          · subst e; rw [pk_uLs, hs, hk0]
          · rw [pk_uLn e, h6]
        · by_cases e : i = k
          · subst e; rw [pk_uLs, gb_B, h6]
          · rw [pk_uLn e]; exact h7 i (by omega) hi2
      · rw [hx] at h6; exact absurd h6 (by decide)
theorem cd_us_sL {M : sm_M} {p i c : Nat} {x : Int64} {j : Int} : cd_us (sm_sL M p i x) c j = cd_us M c j := rfl
theorem cd_df_sL {M : sm_M} {p i c : Nat} {x : Int64} {j : Int} : cd_df (sm_sL M p i x) c j = cd_df M c j := rfl
theorem cd_l_1 {M M0 : sm_M} (h : M.1 = M0.1) {c : Nat} : cd_l M c = cd_l M0 c := by unfold cd_l; rw [h]
theorem cd_us_1 {M M0 : sm_M} (h : M.1 = M0.1) {c : Nat} {j : Int} : cd_us M c j = cd_us M0 c j := by unfold cd_us cd_u1 cd_u0; rw [cd_l_1 h]
theorem cd_df_1 {M M0 : sm_M} (h : M.1 = M0.1) {c : Nat} {j : Int} : cd_df M c j = cd_df M0 c j := by unfold cd_df; rw [cd_l_1 h]
section
variable {g : sm_G} {M0 : sm_M}
theorem c_goBack {u c : Nat} (hc : (u = 5 ∧ c = 1) ∨ (u = 9 ∧ c = 23)) {n : Int} (hn : cd_n M0 c = n) (hn2 : 0 ≤ n ∧ n ≤ 48) (hl : ∀ i, 0 ≤ i → i < n → lv_ok (cd_l M0 c i)) (hz : M0.2 (u + 2) n.toNat = Int64.ofNat 0) : sm_Sm g 34 [.ref u, .ref c] M0 (fun o M' => ∃ r, o = some (.int r) ∧ gb_J M0 u c n 0 M' r) := by
  have e1 : M0.1 c 1 = Int32.ofInt n := by rw [← hn, cd_n, jn_self]
  have loop : ∀ (k : Nat) (M : sm_M) (x : Int32), (k : Int) ≤ n → gb_J M0 u c n k M x → sm_Go g 34 (sm_Fn g (fun o M' => ∃ r, o = some (.int r) ∧ gb_J M0 u c n 0 M' r)) 9 [.ref u, .ref c, .int x, .int (Int32.ofInt ((k : Int) - 1)), .null, .null] [] M := by
    intro k
    induction k with
    | zero =>
      intro M x hk hJ
      refine k34_9 hc (fun _ _ _ _ h => h) ⟨fun _ => ⟨?_, x, rfl, hJ⟩, fun q => absurd ?_ q⟩
      · rcases hJ.2.2.2.2 with h | h
        · exact Or.inl h.1
        · exact Or.inr h.1
      · decide
    | succ k ih =>
      intro M x hk hJ
      have hk2 : (k : Int) < n := by omega
      have hM1 := hJ.1
      have ei : (Int32.ofInt (((k + 1 : Nat) : Int) - 1)) = Int32.ofInt (k : Int) := by congr 1; omega
      have et : (Int32.ofInt (k : Int)).toInt = (k : Int) := jn_to (by omega) (by omega)
      have ec : (Int32.ofInt (k : Int)).toNatClampNeg = k := by rw [jn_cl (by omega) (by omega)]; omega
      have hlk := hl k (by omega) hk2
      have ho := lv_onr (l := cd_l M0 c k) (n := n) (i := k) (by omega)
      have ha := lv_asr hlk (n := n) (by omega)
      have eon : cd_on M c k = lv_on (cd_l M0 c k) n k := by rw [lv_won, cd_l_1 hM1, cd_n, hM1, ← cd_n, hn]
      have eas : cd_as M c k = lv_as (cd_l M0 c k) n := by rw [lv_was, cd_l_1 hM1, cd_n, hM1, ← cd_n, hn]
      rw [ei]
      have tail : ∀ (y : Int32), ((y = 1 ∧ (¬ x = 0 ∨ gb_S M0 u c n k M ≠ M.2 (u + 2) k)) ∨ (y = 0 ∧ x = 0 ∧ gb_S M0 u c n k M = M.2 (u + 2) k)) → sm_Go g 34 (sm_Fn g (fun o M' => ∃ r, o = some (.int r) ∧ gb_J M0 u c n 0 M' r)) 85 [.ref u, .ref c, .int x, .int (Int32.ofInt (k : Int)), .long (gb_S M0 u c n k M), .null] [.int y] (sm_sL M (u + 1) k (gb_B M0 u c n k M)) := by
        intro y hy
        refine k34_85 hc (fun _ _ _ _ h => h) ?_
        rw [ec, jn_add]
        refine ⟨by rw [jn_in (by omega) (by omega)]; omega, sm_wk (L := [.ref u, .ref c, .int y, .int (Int32.ofInt ((k : Int) - 1)), .null, .null]) ⟨rfl, rfl, rfl, rfl, trivial⟩ (ih _ _ (by omega) (gb_step hJ hk2 hlk hz hy))⟩
      refine k34_9 hc (fun _ _ _ _ h => h) ?_
      rw [et, ec, eon, eas, jn_cl (by omega) (by omega), jn_cl (by omega) (by omega)]
      simp only [cd_us_sL, cd_df_sL, cd_us_1 hM1, cd_df_1 hM1, pk_uLs]
      have hin : vp_in (Int32.ofInt (k : Int)) 48 := by rw [jn_in (by omega) (by omega)]; omega
      have hin9 : vp_in (Int32.ofInt (k : Int)) 49 := by rw [jn_in (by omega) (by omega)]; omega
      refine ⟨fun q => ?_, fun _ => ⟨by omega, by rw [jn_in (by omega) (by omega)]; omega, by omega, by rw [jn_in (by omega) (by omega)]; omega, hin, by omega, hin, by omega, fun q => k34_80 hc (fun _ _ _ _ h => h) (tail _ (Or.inl ⟨by decide, Or.inl q⟩)), fun q => ⟨hin9, fun q2 => tail _ (Or.inr ⟨by decide, q, ?_⟩), fun q2 => k34_80 hc (fun _ _ _ _ h => h) (tail _ (Or.inl ⟨by decide, Or.inr ?_⟩))⟩⟩⟩
      · rw [jn_0, jn_lt (by omega) (by omega) (by omega) (by omega)] at q; omega
      · rw [lg_0] at q2; exact q2
      · intro e; exact q2 (lg_0.mpr e)
  refine sm_entry (Nat.le_of_ble_eq_true rfl) (Nat.le_of_ble_eq_true rfl) ?_
  refine k34_0 hc (fun _ _ _ _ h => h) ?_
  have l0 := loop n.toNat M0 0 (by omega) ⟨rfl, fun _ _ _ => rfl, fun _ _ => rfl, fun _ _ => rfl, Or.inl ⟨rfl, rfl, fun i h1 h2 => by omega⟩⟩
  rw [e1, jn_sub, show (n.toNat : Int) - 1 = n - 1 by omega] at *
  exact l0
end
