def mw_cl (n i : Int) : Int := if n < i then n else i
section
variable {g : sm_G} {M0 : sm_M}
set_option maxHeartbeats 2000000 in
theorem c_rloop {b n : Int} (hb : b = 0 ∨ b = 16) (hn : 0 ≤ n ∧ n ≤ 48) (hl : ∀ i, 0 ≤ i → i < n → mw_ok (rf_L M0 b i)) {x1 : Int32} {R : Int × mw_T} {Q : Option Value → sm_M → Prop}
    (fin : ∀ (M2 : sm_M) (i : Int) (x5 : Int32), rw_is M0 M2 R.2 → mw_cl n i = R.1 → 0 ≤ i → i < 2147483648 → sm_Go g 117 (sm_Fn g Q) 362 [.ref 35, .int x1, .int (Int32.ofInt b), .int (Int32.ofInt n), .int (Int32.ofInt i), .int x5, .null, .null] [] M2) :
    ∀ (f : Nat) (i k : Int) (t : mw_T) (M2 : sm_M), rw_is M0 M2 t → (0 ≤ i ∧ i < 2147483648) → (0 ≤ k ∧ k ≤ 200) → (0 ≤ t.2.2.2.toInt ∧ t.2.2.2.toInt ≤ k) → (200 - k) * 49 + (49 - mw_cl n i) ≤ f → mw_run (rf_L M0 b) n f (mw_cl n i) k t = R →
    sm_Go g 117 (sm_Fn g Q) 113 [.ref 35, .int x1, .int (Int32.ofInt b), .int (Int32.ofInt n), .int (Int32.ofInt i), .int (Int32.ofInt k), .null, .null] [] M2 := by
  intro f
  induction f with
  | zero =>
    intro i k t M2 h2 hi hk ho hm hR
    have : mw_cl n i ≤ n := by unfold mw_cl; split <;> omega
    omega
  | succ f ih =>
    intro i k t M2 h2 hi hk ho hm hR
    refine k117_113 (fun _ _ _ _ h => h) ?_
    rw [jn_le (by omega) (by omega) (by omega) (by omega), jn_lt (by omega) (by omega) (by omega) (by omega), jn_add]
    rw [mw_run] at hR
    refine ⟨fun q => ?_, fun q => ?_⟩
    · have ec : mw_cl n i = n := by unfold mw_cl; split <;> omega
      rw [if_pos (by rw [ec]; exact Int.le_refl _)] at hR
      exact fin M2 i _ (by rw [← hR]; exact h2) (by rw [← hR]) hi.1 hi.2
    · have ec : mw_cl n i = i := by unfold mw_cl; split <;> omega
      rw [ec] at hR hm
      rw [if_neg (by omega)] at hR
      have hw := hl i hi.1 (by omega)
      generalize hL : rf_L M0 b i = l at *
      have hin : vp_in (Int32.ofInt (b + i)) 112 := by rw [jn_in (by omega) (by omega)]; omega
      have hcl : (Int32.ofInt (b + i)).toNatClampNeg = (b + i).toNat := jn_cl (by omega) (by omega)
      have le : ∀ j : Nat, j < 5 → M2.1 (36 + j) (b + i).toNat = Int32.ofInt (l j) := fun j hj => by
        rw [← hL]
        show _ = Int32.ofInt (rf_l M0 (b + i) j)
        rw [← rw_l h2 _ j hj]
        exact rf_at M2 (b + i) j
      have l0 : M2.1 36 (b + i).toNat = Int32.ofInt (l 0) := le 0 (by omega)
      have l1 : M2.1 37 (b + i).toNat = Int32.ofInt (l 1) := le 1 (by omega)
      have l2 : M2.1 38 (b + i).toNat = Int32.ofInt (l 2) := le 2 (by omega)
      have l3 : M2.1 39 (b + i).toNat = Int32.ofInt (l 3) := le 3 (by omega)
      have lr : ∀ j : Nat, -2147483648 ≤ l j ∧ l j < 2147483648 := fun j => by
        rw [← hL]
        exact ⟨(M0.1 (36 + j) (b + i).toNat).le_toInt, (M0.1 (36 + j) (b + i).toNat).toInt_lt⟩
      have lr0 : -2147483648 ≤ l 0 ∧ l 0 < 2147483648 := lr 0
      have lr1 : -2147483648 ≤ l 1 ∧ l 1 < 2147483648 := lr 1
      have lr2 : -2147483648 ≤ l 2 ∧ l 2 < 2147483648 := lr 2
      have lr3 : -2147483648 ≤ l 3 ∧ l 3 < 2147483648 := lr 3
      obtain ⟨⟨a0, a9⟩, wd, wa, wb, w5, w6⟩ := id hw
      have er : ∀ k, M2.1 56 k = t.1 k := fun k => by rw [← h2.1]; rfl
      have es : ∀ k, M2.1 57 k = t.2.1 k := fun k => by rw [← h2.1]; rfl
      have hin2 : ∀ j, (0 ≤ l j ∧ l j < 10) → vp_in (Int32.ofInt (l j)) 10 := fun j hj => by rw [jn_in (by omega) (by omega)]; omega
      -- back to the loop's head
      have back : ∀ (i' k' : Int) (M3 : sm_M) (x6 x7 : Int32), ¬ (l 0 < 8 ∧ k = 200) → k' = (if l 0 < 8 then k + 1 else k) → rw_is M0 M3 (mw_w l t) → (0 ≤ i' ∧ i' < 2147483648) → mw_cl n i' = mw_nx l n i (mw_w l t).1 → (8 ≤ l 0 → i' = i + 1) → sm_Go g 117 (sm_Fn g Q) 359 [.ref 35, .int x1, .int (Int32.ofInt b), .int (Int32.ofInt n), .int (Int32.ofInt i'), .int (Int32.ofInt k'), .int x6, .int x7] [] M3 := by
        intro i' k' M3 x6 x7 hns ek h3 hi' ei e8
        refine k117_359 (fun _ _ _ _ h => h) (sm_wk (L := [.ref 35, .int x1, .int (Int32.ofInt b), .int (Int32.ofInt n), .int (Int32.ofInt i'), .int (Int32.ofInt k'), .null, .null]) ⟨rfl, rfl, rfl, rfl, rfl, rfl, trivial⟩ ?_)
        rw [if_neg hns, ← ek, ← ei] at hR
        have hnr := mw_nxr (r := (mw_w l t).1) hw (i := i) (n := n) (by omega)
        refine ih i' k' _ M3 h3 hi' ?_ ?_ ?_ hR
        · split at ek <;> omega
        · rw [mw_w_oc]
          split
          · rename_i z
            rw [if_pos (by omega)] at ek
            have e9 : t.2.2.2 + Int32.ofInt 1 = Int32.ofInt (t.2.2.2.toInt + 1) := by rw [Int32.ofInt_add, jn_self]
            rw [e9, jn_to (by omega) (by omega)]
            omega
          · split at ek <;> omega
        · rw [ei]
          rw [← ei] at hnr ⊢
          split at ek
          · omega
          · have := e8 (by omega)
            have : mw_cl n i' = i + 1 := by unfold mw_cl; split <;> omega
            omega
      have nx1 : ¬ l 0 = 5 → ¬ l 0 = 6 → mw_cl n (i + 1) = mw_nx l n i (mw_w l t).1 := by
        intro z5 z6
        unfold mw_cl mw_nx
        rw [if_neg (by omega), if_neg z5, if_neg (fun z => z6 z.1)]
      have go : ¬ (l 0 < 8 ∧ k = 200) → sm_Go g 117 (sm_Fn g Q) 141 [.ref 35, .int x1, .int (Int32.ofInt b), .int (Int32.ofInt n), .int (Int32.ofInt i), .int (Int32.ofInt k), .null, .null] [] M2 := by
        intro hns
        have body : ∀ k', k' = (if l 0 < 8 then k + 1 else k) → sm_Go g 117 (sm_Fn g Q) 175 [.ref 35, .int x1, .int (Int32.ofInt b), .int (Int32.ofInt n), .int (Int32.ofInt (i + 1)), .int (Int32.ofInt k), .int (Int32.ofInt (b + i)), .int (Int32.ofInt (l 0))] [.int (Int32.ofInt k')] M2 := by
          intro k' ek
          refine k117_175 (fun _ _ _ _ h => h) ?_
          rw [hcl, l1, l2, l3]
          simp (disch := omega) only [jn_lt, jn_eq]
          refine ⟨fun z4 => ⟨fun z5 => ⟨fun z6 => ⟨fun z7 => ⟨fun z8 => ?_, fun z8 => ?_⟩, fun z7 => ?_⟩, fun z6 => ?_⟩, fun z5 => ?_⟩, fun z4 => ?_⟩
          · -- STORE
            have o9 : l 0 = 9 := by omega
            have hd := wd (by rw [o9]; decide)
            have ha := wa (Or.inr (by omega))
            rw [jn_cl (by omega) (by omega), jn_cl (by omega) (by omega), er]
            refine ⟨hin, hin, hin2 1 hd, hin2 2 ha, back (i + 1) k' _ _ _ hns ek ?_ (by omega) (nx1 (by omega) (by omega)) (fun _ => rfl)⟩
            rw [mw_w, if_neg (by omega), if_neg (by omega), if_neg (by omega), if_neg (by omega), if_neg (by omega), if_neg (by omega), if_neg (by omega), if_pos o9]
            exact rw_s h2 _ _
          · -- LOAD
            have hd := wd (by rw [z8]; decide)
            have ha := wa (Or.inr (by omega))
            rw [jn_cl (by omega) (by omega), jn_cl (by omega) (by omega), es]
            refine ⟨hin, hin, hin2 2 ha, hin2 1 hd, back (i + 1) k' _ _ _ hns ek ?_ (by omega) (nx1 (by omega) (by omega)) (fun _ => rfl)⟩
            rw [mw_w, if_neg (by omega), if_neg (by omega), if_neg (by omega), if_neg (by omega), if_neg (by omega), if_neg (by omega), if_pos z8]
            exact rw_r h2 _ _
          · -- OUT
            have ha := wa (Or.inl (by rw [z7]; decide))
            rw [jn_cl (by omega) (by omega), er]
            refine ⟨hin, hin2 2 ha, sm_Sm_mono (c_rputOut h2 ho.1 _) (fun o1 M3 h3 => ?_)⟩
            obtain ⟨rfl, h3⟩ := h3
            refine back (i + 1) k' _ _ _ hns ek ?_ (by omega) (nx1 (by omega) (by omega)) (fun _ => rfl)
            rw [mw_w, if_neg (by omega), if_neg (by omega), if_neg (by omega), if_neg (by omega), if_neg (by omega), if_pos z7]
            exact h3
          · -- BRANCH
            have ha := wa (Or.inl (by rw [z6]; decide))
            have hw0 : mw_w l t = t := by rw [mw_w, if_neg (by omega), if_neg (by omega), if_neg (by omega), if_neg (by omega), if_neg (by omega), if_neg (by omega), if_neg (by omega), if_neg (by omega)]
            rw [jn_cl (by omega) (by omega), er]
            refine ⟨hin, hin2 2 ha, fun z => k117_270 (fun _ _ _ _ h => h) (back (i + 1) k' _ _ _ hns ek (by rw [hw0]; exact h2) (by omega) ?_ (by omega)), fun z => ⟨hin, k117_270 (fun _ _ _ _ h => h) (back (l 3) k' _ _ _ hns ek (by rw [hw0]; exact h2) ⟨w6 z6, lr3.2⟩ ?_ (by omega))⟩⟩
            · rw [hw0]
              have e7 : mw_nx l n i t.1 = i + 1 := by rw [mw_nx, if_neg z5, if_neg (fun y => y.2 z)]
              rw [e7, mw_cl, if_neg (by omega)]
            · rw [hw0]
              have e7 : mw_nx l n i t.1 = if n < l 3 then n else l 3 := by rw [mw_nx, if_neg z5, if_pos ⟨z6, z⟩]
              rw [e7]; rfl
          · -- JUMP
            have hw0 : mw_w l t = t := by rw [mw_w, if_neg (by omega), if_neg (by omega), if_neg (by omega), if_neg (by omega), if_neg (by omega), if_neg (by omega), if_neg (by omega), if_neg (by omega)]
            refine ⟨hin, back (l 2) k' _ _ _ hns ek (by rw [hw0]; exact h2) ⟨w5 z5, lr2.2⟩ ?_ (by omega)⟩
            unfold mw_cl mw_nx; rw [if_pos z5]
          · -- an op that defines
            have hd := wd (by unfold pf_hv; simp; omega)
            refine ⟨hin, hin, hin, sm_Sm_mono (c_worth h2 hw (by omega) lr2) (fun o1 M3 h3 => ?_)⟩
            obtain ⟨rfl, rfl⟩ := h3
            show vp_in _ _ ∧ _
            rw [jn_in (by omega) (by omega), jn_cl (by omega) (by omega)]
            refine ⟨by omega, back (i + 1) k' _ _ _ hns ek ?_ (by omega) (nx1 (by omega) (by omega)) (fun _ => rfl)⟩
            rw [mw_wv a0 (by omega)]
            exact rw_r h2 _ _
        refine k117_141 (fun _ _ _ _ h => h) ?_
        rw [jn_add, hcl, l0, jn_le (by omega) (by omega) (by omega) (by omega), jn_add, jn_add]
        exact ⟨hin, fun z => body (k + 1) (by rw [if_pos (by omega)]), fun z => body k (by rw [if_neg (by omega)])⟩
      rw [hcl, l0, jn_le (by omega) (by omega) (by omega) (by omega)]
      refine ⟨fun z => go (by omega), fun z => ⟨hin, fun y => ?_, fun y => go (by omega)⟩⟩
      rw [if_pos (by omega)] at hR
      exact fin M2 i _ (by rw [← hR]; exact h2) (by rw [← hR, ec]) hi.1 hi.2
end
