-- the class's spiller: growth, slots, the code anew
section
variable {g : sm_G} {M : sm_M}
theorem c_growthOf {M0 : sm_M} {sv : Nat → Int} {i : Int} (hi : 0 ≤ i ∧ i < 48) (hk : sl_ok M0 sv i) (h21 : M.1 21 = M0.1 21) (hL : cd_l M 23 = cd_l M0 23) : sm_Sm g 44 [.ref 20, .ref 23, .int (Int32.ofInt i)] M (sm_P (.int (Int32.ofInt (gl sv (cd_l M0 23 i) : Nat))) M) := by
  have ti : (Int32.ofInt i).toInt = i := jn_to (by omega) (by omega)
  have g1 := gl_j1 sv (cd_l M0 23 i) 1
  have g2 := gl_j1 sv (cd_l M0 23 i) 2
  have g3 := gl_j1 sv (cd_l M0 23 i) 3
  generalize hQ : sm_P (.int (Int32.ofInt (gl sv (cd_l M0 23 i) : Nat))) M = Q
  have step : ∀ (j : Int) (x : Nat), 1 ≤ j ∧ j < 4 → x < 100 → sm_Go g 44 (sm_Fn g Q) 5 [.ref 20, .ref 23, .int (Int32.ofInt i), .int (Int32.ofInt ((x + gl_j sv (cd_l M0 23 i) j : Nat) : Int)), .int (Int32.ofInt (j + 1))] [] M → sm_Go g 44 (sm_Fn g Q) 5 [.ref 20, .ref 23, .int (Int32.ofInt i), .int (Int32.ofInt (x : Int)), .int (Int32.ofInt j)] [] M := by
    intro j x hj hx hnext
    have tj : (Int32.ofInt j).toInt = j := jn_to (by omega) (by omega)
    have rj := sl_r hk hj
    refine k44_5 (fun _ _ _ _ h => h) ⟨fun q => ?_, fun _ => ?_⟩
    · rw [jn_lt (by omega) (by omega) (by omega) (by omega)] at q; omega
    rw [ti, tj, sp_sl hk h21 hL hj, hL, jn_eq (by omega) (by omega) (by omega) (by omega)]
    refine ⟨⟨hi.1, hi.2, hj.1, hj.2, fun q => lv_hv hk.1 hj q⟩, fun q => k44_26 (fun _ _ _ _ h => h) ?_, fun q => k44_26 (fun _ _ _ _ h => h) ?_⟩
    · rw [jn_add]
      rw [show gl_j sv (cd_l M0 23 i) j = 0 by unfold gl_j; rw [if_pos q]] at hnext
      exact hnext
    · rw [jn_add, jn_add]
      rw [show gl_j sv (cd_l M0 23 i) j = 1 by unfold gl_j; rw [if_neg q]] at hnext
      exact hnext
  refine sm_entry (Nat.le_of_ble_eq_true rfl) (Nat.le_of_ble_eq_true rfl) ?_
  refine k44_0 (fun _ _ _ _ h => h) (step 1 0 (by omega) (by omega) (step 2 _ (by omega) (by omega) (step 3 _ (by omega) (by omega) ?_)))
  refine k44_5 (fun _ _ _ _ h => h) ⟨fun _ => ?_, fun q => absurd ?_ q⟩
  · refine sm_Sm_mono (c_twice hi hk h21 hL) (fun o M1 h1 => ?_)
    obtain ⟨rfl, rfl⟩ := h1
    show (_ → _) ∧ (_ → _)
    rw [sm_z0, ← hQ]
    refine ⟨fun q => ⟨?_, rfl⟩, fun q => ⟨?_, rfl⟩⟩
    · unfold gl; rw [if_neg (by rw [q]; decide), Nat.zero_add, Nat.sub_zero]
    · rw [Bool.not_eq_false] at q
      have q2 := q
      unfold sl_tw at q2
      simp only [Bool.and_eq_true, decide_eq_true_eq] at q2
      have e2 : gl_j sv (cd_l M1 23 i) 2 = 1 := by unfold gl_j; rw [hL, if_neg q2.1]
      unfold gl
      rw [if_pos q, Nat.zero_add, jn_sub]
      rw [hL] at e2
      have e3 : ((gl_j sv (cd_l M0 23 i) 1 + gl_j sv (cd_l M0 23 i) 2 + gl_j sv (cd_l M0 23 i) 3 : Nat) : Int) - 1 = ((gl_j sv (cd_l M0 23 i) 1 + gl_j sv (cd_l M0 23 i) 2 + gl_j sv (cd_l M0 23 i) 3 - 1 : Nat) : Int) := by omega
      rw [e3]
  · rw [jn_lt (by omega) (by omega) (by omega) (by omega)]; omega
theorem c_hasRoom {sv : Nat → Int} {n : Nat} (hn : M.1 23 1 = Int32.ofInt (n : Int)) (hn2 : n ≤ 48) (hk : ∀ i : Nat, i < n → sl_ok M sv i) {V : Int} (hV : M.1 20 2 = Int32.ofInt V) (hV2 : 0 ≤ V ∧ V < 100) :
    sm_Sm g 43 [.ref 20, .ref 23] M (sm_P (.int (sm_z (decide (n + wg sv (cd_l M 23) n ≤ 48) && decide (V + (wg sv (cd_l M 23) n : Nat) ≤ 60)))) M) := by
  generalize hQ : sm_P (.int (sm_z (decide (n + wg sv (cd_l M 23) n ≤ 48) && decide (V + (wg sv (cd_l M 23) n : Nat) ≤ 60)))) M = Q
  have loop : ∀ (d i : Nat), i + d = n → sm_Go g 43 (sm_Fn g Q) 4 [.ref 20, .ref 23, .int (Int32.ofInt ((wg sv (cd_l M 23) i : Nat) : Int)), .int (Int32.ofInt (i : Int))] [] M := by
    intro d
    induction d with
    | zero =>
      intro i hd
      have ei : i = n := by omega
      subst ei
      have := wg_le sv (cd_l M 23) i
      refine k43_4 (fun _ _ _ _ h => h) ⟨fun _ => ?_, fun q => absurd ?_ q⟩
      · rw [hn, hV, jn_add, jn_add, jn_lt (by omega) (by omega) (by omega) (by omega), jn_lt (by omega) (by omega) (by omega) (by omega), ← hQ]
        refine ⟨fun q => ⟨Or.inl rfl, ?_, rfl⟩, fun q => ⟨fun q2 => ⟨Or.inl rfl, ?_, rfl⟩, fun q2 => ⟨Or.inr rfl, ?_, rfl⟩⟩⟩
        · rw [decide_eq_false (show ¬ i + wg sv (cd_l M 23) i ≤ 48 by omega), sm_o0]; rfl
        · rw [decide_eq_false (show ¬ V + (wg sv (cd_l M 23) i : Nat) ≤ 60 by omega), sm_o0, Bool.and_false]
        · rw [decide_eq_true (show i + wg sv (cd_l M 23) i ≤ 48 by omega), decide_eq_true (show V + (wg sv (cd_l M 23) i : Nat) ≤ 60 by omega), sm_o1]; rfl
      · rw [hn, jn_le (by omega) (by omega) (by omega) (by omega)]; omega
    | succ d ih =>
      intro i hd
      refine k43_4 (fun _ _ _ _ h => h) ⟨fun q => ?_, fun _ => ?_⟩
      · rw [hn, jn_le (by omega) (by omega) (by omega) (by omega)] at q; omega
      refine sm_Sm_mono (c_growthOf (by omega) (hk i (by omega)) rfl rfl) (fun o M1 h1 => ?_)
      obtain ⟨rfl, rfl⟩ := h1
      show sm_Go g 43 _ 4 _ _ _
      rw [jn_add, jn_add, show (i : Int) + 1 = ((i + 1 : Nat) : Int) by omega, show ((wg sv (cd_l M1 23) i : Nat) : Int) + ((gl sv (cd_l M1 23 i) : Nat) : Int) = ((wg sv (cd_l M1 23) (i + 1) : Nat) : Int) by
        show _ = ((wg sv (cd_l M1 23) i + gl sv (cd_l M1 23 i) : Nat) : Int); omega]
      exact ih (i + 1) (by omega)
  refine sm_entry (Nat.le_of_ble_eq_true rfl) (Nat.le_of_ble_eq_true rfl) ?_
  exact k43_0 (fun _ _ _ _ h => h) (loop n 0 (by omega))
theorem c_giveSlot {ld : Nat → Int} (hl : ∀ v, v < 60 → M.1 13 v = Int32.ofInt (ld v)) (hr : ∀ v, v < 60 → -1 ≤ ld v ∧ ld v < 60) {x : Int} (hx : 0 ≤ x ∧ x < 60) {y : Int32} :
    sm_Sm g 42 [.ref 20, .ref 12, .int (Int32.ofInt x), .int y] M (fun o M' => o = none ∧ (∀ v, v < 60 → M'.1 21 v = if ld v = x then y else M.1 21 v) ∧ (∀ p, p ≠ 21 → M'.1 p = M.1 p) ∧ M'.2 = M.2) := by
  generalize hQ : (fun (o : Option Value) (M' : sm_M) => o = none ∧ (∀ v, v < 60 → M'.1 21 v = if ld v = x then y else M.1 21 v) ∧ (∀ p, p ≠ 21 → M'.1 p = M.1 p) ∧ M'.2 = M.2) = Q
  have loop : ∀ (d w : Nat) (M1 : sm_M), w + d = 60 → (∀ v, v < 60 → M1.1 21 v = if v < w ∧ ld v = x then y else M.1 21 v) → (∀ p, p ≠ 21 → M1.1 p = M.1 p) → M1.2 = M.2 → sm_Go g 42 (sm_Fn g Q) 3 [.ref 20, .ref 12, .int (Int32.ofInt x), .int y, .int (Int32.ofInt (w : Int))] [] M1 := by
    intro d
    induction d with
    | zero =>
      intro w M1 hd h1 h2 h3
      refine k42_3 (fun _ _ _ _ h => h) ⟨fun _ => ?_, fun q => absurd ?_ q⟩
      · rw [← hQ]
        refine ⟨rfl, fun v hv => ?_, h2, h3⟩
        rw [h1 v hv]
        by_cases e : ld v = x
        · rw [if_pos ⟨by omega, e⟩, if_pos e]
        · rw [if_neg (fun z => e z.2), if_neg e]
      · rw [jn_le (by omega) (by omega) (by omega) (by omega)]; omega
    | succ d ih =>
      intro w M1 hd h1 h2 h3
      have rw1 := hr w (by omega)
      have inw : vp_in (Int32.ofInt (w : Int)) 60 := by rw [jn_in (by omega) (by omega)]; omega
      have on : ∀ M2 : sm_M, (∀ v, v < 60 → M2.1 21 v = if v < w + 1 ∧ ld v = x then y else M.1 21 v) → (∀ p, p ≠ 21 → M2.1 p = M.1 p) → M2.2 = M.2 → sm_Go g 42 (sm_Fn g Q) 29 [.ref 20, .ref 12, .int (Int32.ofInt x), .int y, .int (Int32.ofInt (w : Int))] [] M2 := fun M2 a b c => by
        refine k42_29 (fun _ _ _ _ h => h) ?_
        rw [jn_add, show (w : Int) + 1 = ((w + 1 : Nat) : Int) by omega]
        exact ih (w + 1) M2 (by omega) a b c
      refine k42_3 (fun _ _ _ _ h => h) ⟨fun q => ?_, fun _ => ?_⟩
      · rw [jn_le (by omega) (by omega) (by omega) (by omega)] at q; omega
      rw [show (Int32.ofInt (w : Int)).toNatClampNeg = w by rw [jn_cl (by omega) (by omega)]; omega, h2 13 (by decide), hl w (by omega), jn_eq (by omega) (by omega) (by omega) (by omega)]
      refine ⟨inw, fun q => on M1 (fun v hv => ?_) h2 h3, fun q => ⟨inw, on _ (fun v hv => ?_) (fun p hp => by rw [sI_1 hp]; exact h2 p hp) h3⟩⟩
      · rw [h1 v hv]
        by_cases e : v < w ∧ ld v = x
        · rw [if_pos e, if_pos ⟨by omega, e.2⟩]
        · rw [if_neg e, if_neg (fun z => e ⟨by
            by_cases c : v = w
            · rw [c] at z; exact absurd z.2 q
            · omega, z.2⟩)]
      · rw [sI_s]
        by_cases c : v = w
        · rw [c, pk_us, if_pos ⟨by omega, q⟩]
        · rw [pk_un c, h1 v hv]
          by_cases e : v < w ∧ ld v = x
          · rw [if_pos e, if_pos ⟨by omega, e.2⟩]
          · rw [if_neg e, if_neg (fun z => e ⟨by omega, z.2⟩)]
  refine sm_entry (Nat.le_of_ble_eq_true rfl) (Nat.le_of_ble_eq_true rfl) ?_
  refine k42_0 (fun _ _ _ _ h => h) (loop 60 0 M (by omega) (fun v hv => ?_) (fun _ _ => rfl) rfl)
  rw [if_neg (by omega)]
/-- the slot of a value: its group's, if that is spilled -/
def svv (ld : Nat → Int) (sp : Nat → Bool) (S : Int) (w : Nat) (v : Nat) : Int := if 0 ≤ ld v ∧ ld v < (w : Int) ∧ sp (ld v).toNat = true then S + (bct sp (ld v).toNat : Nat) else -1
theorem svv_r {ld : Nat → Int} {sp : Nat → Bool} {S : Int} (hS : 0 ≤ S ∧ S ≤ 20) (v : Nat) (hl : ld v < 60) : -1 ≤ svv ld sp S 60 v ∧ svv ld sp S 60 v < 100 := by
  unfold svv
  have := bct_le sp (ld v).toNat
  split <;> omega
theorem c_giveSlots {ld : Nat → Int} (hl : ∀ v, v < 60 → M.1 13 v = Int32.ofInt (ld v)) (hr : ∀ v, v < 60 → -1 ≤ ld v ∧ ld v < 60) {sp : Nat → Bool} {l : Int64} (hs : ∀ v, v < 60 → bs_t l v = sp v) {S : Int} (hS : M.1 20 3 = Int32.ofInt S) (hS2 : 0 ≤ S ∧ S < 100) :
    sm_Sm g 41 [.ref 20, .ref 12, .long l] M (fun o M' => o = none ∧ (∀ v, v < 60 → M'.1 21 v = Int32.ofInt (svv ld sp S 60 v)) ∧ M'.1 20 3 = Int32.ofInt (S + (bct sp 60 : Nat)) ∧ (∀ i, i ≠ 3 → M'.1 20 i = M.1 20 i) ∧ (∀ p, p ≠ 20 → p ≠ 21 → M'.1 p = M.1 p) ∧ M'.2 = M.2) := by
  generalize hQ : (fun (o : Option Value) (M' : sm_M) => o = none ∧ (∀ v, v < 60 → M'.1 21 v = Int32.ofInt (svv ld sp S 60 v)) ∧ M'.1 20 3 = Int32.ofInt (S + (bct sp 60 : Nat)) ∧ (∀ i, i ≠ 3 → M'.1 20 i = M.1 20 i) ∧ (∀ p, p ≠ 20 → p ≠ 21 → M'.1 p = M.1 p) ∧ M'.2 = M.2) = Q
  have loop : ∀ (d w : Nat) (M1 : sm_M), w + d = 60 → (∀ v, v < 60 → M1.1 21 v = Int32.ofInt (svv ld sp S w v)) → M1.1 20 3 = Int32.ofInt (S + (bct sp w : Nat)) → (∀ i, i ≠ 3 → M1.1 20 i = M.1 20 i) → (∀ p, p ≠ 20 → p ≠ 21 → M1.1 p = M.1 p) → M1.2 = M.2 → sm_Go g 41 (sm_Fn g Q) 11 [.ref 20, .ref 12, .long l, .null, .int (Int32.ofInt (w : Int))] [] M1 := by
    intro d
    induction d with
    | zero =>
      intro w M1 hd h1 h2 h3 h4 h5
      have ew : w = 60 := by omega
      subst ew
      refine k41_11 (fun _ _ _ _ h => h) ⟨fun _ => ?_, fun q => absurd ?_ q⟩
      · rw [← hQ]; exact ⟨rfl, h1, h2, h3, h4, h5⟩
      · rw [jn_le (by omega) (by omega) (by omega) (by omega)]; omega
    | succ d ih =>
      intro w M1 hd h1 h2 h3 h4 h5
      have on : ∀ M2 : sm_M, (∀ v, v < 60 → M2.1 21 v = Int32.ofInt (svv ld sp S (w + 1) v)) → M2.1 20 3 = Int32.ofInt (S + (bct sp (w + 1) : Nat)) → (∀ i, i ≠ 3 → M2.1 20 i = M.1 20 i) → (∀ p, p ≠ 20 → p ≠ 21 → M2.1 p = M.1 p) → M2.2 = M.2 → sm_Go g 41 (sm_Fn g Q) 48 [.ref 20, .ref 12, .long l, .null, .int (Int32.ofInt (w : Int))] [] M2 := fun M2 a b c d' e => by
        refine k41_48 (fun _ _ _ _ h => h) ?_
        rw [jn_add, show (w : Int) + 1 = ((w + 1 : Nat) : Int) by omega]
        exact ih (w + 1) M2 (by omega) a b c d' e
      refine k41_11 (fun _ _ _ _ h => h) ⟨fun q => ?_, fun _ => ?_⟩
      · rw [jn_le (by omega) (by omega) (by omega) (by omega)] at q; omega
      rw [bs_hb (by omega), hs w (by omega), sm_z0]
      have bs : bct sp (w + 1) = bct sp w + (if sp w = true then 1 else 0) := rfl
      refine ⟨fun q => on M1 (fun v hv => ?_) ?_ h3 h4 h5, fun q => ?_⟩
      · rw [h1 v hv]
        congr 1
        unfold svv
        by_cases e : 0 ≤ ld v ∧ ld v < (w : Int) ∧ sp (ld v).toNat = true
        · rw [if_pos e, if_pos ⟨e.1, by omega, e.2.2⟩]
        · rw [if_neg e, if_neg (fun z => e ⟨z.1, by
            by_cases c : ld v = (w : Int)
            · rw [c] at z
              have := z.2.2
              rw [show ((w : Int)).toNat = w by omega, q] at this
              cases this
            · have := z.2.1; omega, z.2.2⟩)]
      · rw [h2, bs, q]; rfl
      · rw [Bool.not_eq_false] at q
        rw [q] at bs
        refine sm_Sm_mono (c_giveSlot (ld := ld) (fun v hv => by rw [h4 13 (by decide) (by decide)]; exact hl v hv) hr (x := (w : Int)) (by omega)) (fun o M2 h' => ?_)
        obtain ⟨rfl, a1, a2, a3⟩ := h'
        refine on _ (fun v hv => ?_) ?_ (fun i hi => ?_) (fun p p1 p2 => ?_) ?_
        · rw [sI_1 (by decide), a1 v hv, h1 v hv, h2]
          unfold svv
          by_cases c : ld v = (w : Int)
          · rw [if_pos c, if_pos ⟨by omega, by omega, by rw [c, show ((w : Int)).toNat = w by omega]; exact q⟩, c]
            rfl
          · rw [if_neg c]
            congr 1
            by_cases e : 0 ≤ ld v ∧ ld v < (w : Int) ∧ sp (ld v).toNat = true
            · rw [if_pos e, if_pos ⟨e.1, by omega, e.2.2⟩]
            · rw [if_neg e, if_neg (fun z => e ⟨z.1, by have := z.2.1; omega, z.2.2⟩)]
        · rw [sI_s, pk_us, a2 20 (by decide), h2, jn_add, bs]
          congr 1
          simp only [if_pos]
          omega
        · rw [sI_s, pk_un hi, a2 20 (by decide)]; exact h3 i hi
        · rw [sI_1 p1, a2 p p2]; exact h4 p p1 p2
        · show M2.2 = M.2; rw [a3, h5]
  refine sm_entry (Nat.le_of_ble_eq_true rfl) (Nat.le_of_ble_eq_true rfl) ?_
  refine k41_0 (fun _ _ _ _ h => h) ?_
  refine sm_Sm_mono (c_fillI (q := 21) (n := 60) (by unfold fi_ok; omega) _) (fun o1 M1 h1 => ?_)
  obtain ⟨rfl, rfl⟩ := h1
  show sm_Go g 41 _ 11 _ _ _
  refine loop 60 0 _ (by omega) (fun v hv => ?_) ?_ (fun i hi => ?_) (fun p p1 p2 => ?_) ?_
  · rw [cI_s, fl_n, if_pos hv, svv, if_neg (by omega)]
  · rw [cI_1 (by decide), hS]
    show _ = Int32.ofInt (S + ((0 : Nat) : Int))
    congr 1; omega
  · rw [cI_1 (by decide)]
  · rw [cI_1 p2]
  · rfl
theorem pf_tc_ne {o : Int} (h : ¬ pf_tc o = -1) : (o = 5 ∧ pf_tc o = 2) ∨ (o = 6 ∧ pf_tc o = 3) := by
  unfold pf_tc at *
  by_cases e : o = 5
  · rw [if_pos e]; exact Or.inl ⟨e, rfl⟩
  · rw [if_neg e] at h ⊢
    by_cases e2 : o = 6
    · rw [if_pos e2]; exact Or.inr ⟨e2, rfl⟩
    · rw [if_neg e2] at h; exact absurd rfl h
def rw_post (M0 M' : sm_M) (sv : Nat → Int) (n : Nat) (V : Int) : Prop :=
  M'.1 25 1 = Int32.ofInt ((wa sv (cd_l M0 23) V n).1 : Nat) ∧ (∀ i : Nat, i < (wa sv (cd_l M0 23) V n).1 → ∀ j : Int, 0 ≤ j ∧ j < 5 → cd_l M' 25 i j = fx (fun t => ((wa sv (cd_l M0 23) V t).1 : Int)) n ((wa sv (cd_l M0 23) V n).2.1 i) j) ∧ M'.1 20 2 = Int32.ofInt (wa sv (cd_l M0 23) V n).2.2 ∧ (∀ p, p ≠ 20 → p ≠ 22 → p ≠ 25 → p ≠ 26 → M'.1 p = M0.1 p) ∧ (∀ i, i ≠ 2 → M'.1 20 i = M0.1 20 i) ∧ M'.2 = M0.2
theorem c_rewrite {M0 : sm_M} {sv : Nat → Int} {n : Nat} (hn : M0.1 23 1 = Int32.ofInt (n : Int)) (hn2 : n ≤ 48) (hk : ∀ i : Nat, i < n → sl_ok M0 sv i) {V : Int} (hV : M0.1 20 2 = Int32.ofInt V) (hV2 : 0 ≤ V ∧ V < 100) (hN : n + wg sv (cd_l M0 23) n ≤ 48)
    (hR : ∀ i : Nat, i < (wa sv (cd_l M0 23) V n).1 → rl_ok ((wa sv (cd_l M0 23) V n).2.1 i)) :
    sm_Sm g 47 [.ref 20, .ref 23, .ref 25] M0 (fun o M' => o = none ∧ rw_post M0 M' sv n V) := by
  generalize hQ : (fun (o : Option Value) (M' : sm_M) => o = none ∧ rw_post M0 M' sv n V) = Q
  have hwa := fun i => wa_n sv (cd_l M0 23) V i
  have hN2 := (hwa n).1
  generalize hF : wa sv (cd_l M0 23) V n = F at *
  -- the jumps
  have loop2 : ∀ (d i : Nat) (M : sm_M), i + d = F.1 → M.1 25 1 = Int32.ofInt (F.1 : Int) → (∀ t, t ≤ n → M.1 22 t = Int32.ofInt ((wa sv (cd_l M0 23) V t).1 : Nat)) → (∀ a : Nat, a < F.1 → ∀ j : Int, 0 ≤ j ∧ j < 5 → cd_l M 25 a j = if a < i then fx (fun t => ((wa sv (cd_l M0 23) V t).1 : Int)) n (F.2.1 a) j else F.2.1 a j) → M.1 20 2 = Int32.ofInt F.2.2 → (∀ p, p ≠ 20 → p ≠ 22 → p ≠ 25 → p ≠ 26 → M.1 p = M0.1 p) → (∀ i, i ≠ 2 → M.1 20 i = M0.1 20 i) → M.2 = M0.2 → sm_Go g 47 (sm_Fn g Q) 53 [.ref 20, .ref 23, .ref 25, .int (Int32.ofInt (i : Int)), .null] [] M := by
    intro d
    induction d with
    | zero =>
      intro i M hd h1 h2 h3 h4 h5 h6 h7
      refine k47_53 (fun _ _ _ _ h => h) ⟨fun _ => ?_, fun q => absurd ?_ q⟩
      · rw [← hQ]
        unfold rw_post
        rw [hF]
        refine ⟨rfl, h1, fun a ha j hj => ?_, h4, h5, h6, h7⟩
        rw [h3 a ha j hj, if_pos (by omega)]
      · rw [h1, jn_le (by omega) (by omega) (by omega) (by omega)]; omega
    | succ d ih =>
      intro i M hd h1 h2 h3 h4 h5 h6 h7
      have ti : (Int32.ofInt (i : Int)).toInt = i := jn_to (by omega) (by omega)
      have t0 : (Int32.ofInt 0).toInt = 0 := rfl
      have on : ∀ (M2 : sm_M) (x : Int32), M2.1 25 1 = Int32.ofInt (F.1 : Int) → (∀ t, t ≤ n → M2.1 22 t = Int32.ofInt ((wa sv (cd_l M0 23) V t).1 : Nat)) → (∀ a : Nat, a < F.1 → ∀ j : Int, 0 ≤ j ∧ j < 5 → cd_l M2 25 a j = if a < i + 1 then fx (fun t => ((wa sv (cd_l M0 23) V t).1 : Int)) n (F.2.1 a) j else F.2.1 a j) → M2.1 20 2 = Int32.ofInt F.2.2 → (∀ p, p ≠ 20 → p ≠ 22 → p ≠ 25 → p ≠ 26 → M2.1 p = M0.1 p) → (∀ i, i ≠ 2 → M2.1 20 i = M0.1 20 i) → M2.2 = M0.2 → sm_Go g 47 (sm_Fn g Q) 104 [.ref 20, .ref 23, .ref 25, .int (Int32.ofInt (i : Int)), .int x] [] M2 := fun M2 x a b c d' e f h => by
        refine k47_104 (fun _ _ _ _ h => h) ?_
        rw [jn_add, show (i : Int) + 1 = ((i + 1 : Nat) : Int) by omega]
        exact sm_wk (L := [.ref 20, .ref 23, .ref 25, .int (Int32.ofInt ((i + 1 : Nat) : Int)), .null]) ⟨rfl, rfl, rfl, rfl, trivial⟩ (ih (i + 1) M2 (by omega) a b c d' e f h)
      have l0 : cd_l M 25 i 0 = F.2.1 i 0 := by rw [h3 i (by omega) 0 (by omega), if_neg (by omega)]
      have tcr := pf_tcr (F.2.1 i 0)
      refine k47_53 (fun _ _ _ _ h => h) ⟨fun q => ?_, fun _ => ?_⟩
      · rw [h1, jn_le (by omega) (by omega) (by omega) (by omega)] at q; omega
      rw [ti, t0, cd_lt, l0, pf_tct, jn_eq (by omega) (by omega) (by omega) (by omega), h5 23 (by decide) (by decide) (by decide) (by decide), hn]
      refine ⟨⟨by omega, by omega, by omega, by omega⟩, fun q => on M _ h1 h2 (fun a ha j hj => ?_) h4 h5 h6 h7, fun q => ?_⟩
      · rw [h3 a ha j hj]
        by_cases e : a < i
        · rw [if_pos e, if_pos (by omega)]
        · rw [if_neg e]
          by_cases e2 : a = i
          · rw [if_pos (by omega), e2, fx, if_neg (by omega)]
          · rw [if_neg (by omega)]
      · have tcn := pf_tc_ne q
        have lt : cd_l M 25 i (pf_tc (F.2.1 i 0)) = F.2.1 i (pf_tc (F.2.1 i 0)) := by rw [h3 i (by omega) _ (by omega), if_neg (by omega)]
        have h0 : 0 ≤ F.2.1 i (pf_tc (F.2.1 i 0)) := by
          have := hR i (by omega)
          rcases tcn with ⟨e1, e2⟩ | ⟨e1, e2⟩
          · rw [e2]; exact this.1 e1
          · rw [e2]; exact this.2 e1
        have rr := @cd_lr M 25 i (pf_tc (F.2.1 i 0))
        rw [lt] at rr
        have ec : (if Int32.ofInt (n : Int) < Int32.ofInt (F.2.1 i (pf_tc (F.2.1 i 0))) then Int32.ofInt (n : Int) else Int32.ofInt (F.2.1 i (pf_tc (F.2.1 i 0)))) = Int32.ofInt (if (n : Int) < F.2.1 i (pf_tc (F.2.1 i 0)) then (n : Int) else F.2.1 i (pf_tc (F.2.1 i 0))) := by
          have lx : Int32.ofInt (n : Int) < Int32.ofInt (F.2.1 i (pf_tc (F.2.1 i 0))) ↔ (n : Int) < F.2.1 i (pf_tc (F.2.1 i 0)) := jn_lt (by omega) (by omega) (by omega) (by omega)
          by_cases c : (n : Int) < F.2.1 i (pf_tc (F.2.1 i 0))
          · rw [if_pos (lx.mpr c), if_pos c]
          · rw [if_neg (fun z => c (lx.mp z)), if_neg c]
        rw [lt, ec]
        have rc : 0 ≤ (if (n : Int) < F.2.1 i (pf_tc (F.2.1 i 0)) then (n : Int) else F.2.1 i (pf_tc (F.2.1 i 0))) ∧ (if (n : Int) < F.2.1 i (pf_tc (F.2.1 i 0)) then (n : Int) else F.2.1 i (pf_tc (F.2.1 i 0))) ≤ n := by split <;> omega
        generalize hcc : (if (n : Int) < F.2.1 i (pf_tc (F.2.1 i 0)) then (n : Int) else F.2.1 i (pf_tc (F.2.1 i 0))) = cc at *
        have hst := hwa cc.toNat
        have hwm := wg_mono sv (cd_l M0 23) (n - cc.toNat) cc.toNat
        rw [show cc.toNat + (n - cc.toNat) = n by omega] at hwm
        rw [jn_cl (a := cc) (by omega) (by omega), h2 cc.toNat (by omega)]
        refine ⟨⟨by omega, by omega, by omega, by omega⟩, by rw [jn_in (by omega) (by omega)]; omega, sm_Sm_mono (c_change (by omega) (by omega) (by omega)) (fun o M2 h' => ?_)⟩
        obtain ⟨rfl, rfl⟩ := h'
        refine on _ _ ?_ (fun t ht => ?_) (fun a ha j hj => ?_) ?_ (fun p p1 p2 p3 p4 => ?_) (fun t ht => ?_) h7
        · rw [sI_1 (by decide)]; exact h1
        · rw [sI_1 (by decide)]; exact h2 t ht
        · rw [cd_set (by omega) (by omega) (by omega) hj]
          by_cases e : (a : Int) = i ∧ j = pf_tc (F.2.1 i 0)
          · have ea : a = i := by omega
            rw [if_pos e, jn_to (by omega) (by omega), if_pos (by omega), fx, ea, e.2, if_pos rfl, hcc]
          · rw [if_neg e, h3 a ha j hj]
            by_cases e1 : a < i
            · rw [if_pos e1, if_pos (by omega)]
            · rw [if_neg e1]
              by_cases e2 : a = i
              · rw [if_pos (by omega), e2, fx, if_neg (fun z => e ⟨by omega, z⟩)]
              · rw [if_neg (by omega)]
        · rw [sI_1 (by decide)]; exact h4
        · rw [sI_1 p4]; exact h5 p p1 p2 p3 p4
        · rw [sI_1 (by decide)]; exact h6 t ht
  -- the lines
  have loop1 : ∀ (d i : Nat) (M : sm_M), i + d = n → sp_is M0 M (wa sv (cd_l M0 23) V i) → (∀ t, t < i → M.1 22 t = Int32.ofInt ((wa sv (cd_l M0 23) V t).1 : Nat)) → sm_Go g 47 (sm_Fn g Q) 7 [.ref 20, .ref 23, .ref 25, .int (Int32.ofInt (i : Int)), .null] [] M := by
    intro d
    induction d with
    | zero =>
      intro i M hd h1 h2
      have ei : i = n := by omega
      subst ei
      rw [hF] at h1
      obtain ⟨s1, s2, s3, s4, s5, s6⟩ := h1
      have e23 : M.1 23 1 = Int32.ofInt (i : Int) := by rw [s4 23 (by decide) (by decide) (by decide) (by decide)]; exact hn
      refine k47_7 (fun _ _ _ _ h => h) ⟨fun _ => ?_, fun q => absurd ?_ q⟩
      · rw [e23, s1, show (Int32.ofInt (i : Int)).toNatClampNeg = i by rw [jn_cl (by omega) (by omega)]; omega]
        refine ⟨by rw [jn_in (by omega) (by omega)]; omega, loop2 F.1 0 _ (by omega) ?_ (fun t ht => ?_) (fun a ha j hj => ?_) ?_ (fun p p1 p2 p3 p4 => ?_) (fun t ht => ?_) s6⟩
        · rw [sI_1 (by decide)]; exact s1
        · rw [sI_s]
          by_cases e : t = i
          · rw [e, pk_us, hF]
          · rw [pk_un e]; exact h2 t (by omega)
        · rw [if_neg (by omega)]
          have : cd_l (sm_sI M 22 i (Int32.ofInt (F.1 : Int))) 25 a j = cd_l M 25 a j := by unfold cd_l; rw [sI_1 (by decide)]
          rw [this]; exact s2 a ha j hj
        · rw [sI_1 (by decide)]; exact s3
        · rw [sI_1 p2]; exact s4 p p1 p2 p3 p4
        · rw [sI_1 (by decide)]; exact s5 t ht
      · rw [e23, jn_le (by omega) (by omega) (by omega) (by omega)]; omega
    | succ d ih =>
      intro i M hd h1 h2
      have e23 : M.1 23 1 = Int32.ofInt (n : Int) := by rw [h1.2.2.2.1 23 (by decide) (by decide) (by decide) (by decide)]; exact hn
      refine k47_7 (fun _ _ _ _ h => h) ⟨fun q => ?_, fun _ => ?_⟩
      · rw [e23, jn_le (by omega) (by omega) (by omega) (by omega)] at q; omega
      rw [h1.1, show (Int32.ofInt (i : Int)).toNatClampNeg = i by rw [jn_cl (by omega) (by omega)]; omega]
      have h1' : sp_is M0 (sm_sI M 22 i (Int32.ofInt ((wa sv (cd_l M0 23) V i).1 : Int))) (wa sv (cd_l M0 23) V i) := by
        obtain ⟨s1, s2, s3, s4, s5, s6⟩ := h1
        refine ⟨by rw [sI_1 (by decide)]; exact s1, fun a ha j hj => ?_, by rw [sI_1 (by decide)]; exact s3, fun p p1 p2 p3 p4 => by rw [sI_1 p2]; exact s4 p p1 p2 p3 p4, fun t ht => by rw [sI_1 (by decide)]; exact s5 t ht, s6⟩
        have : cd_l (sm_sI M 22 i (Int32.ofInt ((wa sv (cd_l M0 23) V i).1 : Int))) 25 a j = cd_l M 25 a j := by unfold cd_l; rw [sI_1 (by decide)]
        rw [this]; exact s2 a ha j hj
      have w1 := hwa i
      have w2 := hwa (i + 1)
      have m1 := wg_mono sv (cd_l M0 23) (n - (i + 1)) (i + 1)
      rw [show i + 1 + (n - (i + 1)) = n by omega] at m1
      have m2 := wg_le sv (cd_l M0 23) i
      have ew : w_line sv (cd_l M0 23 i) (wa sv (cd_l M0 23) V i) = wa sv (cd_l M0 23) V (i + 1) := rfl
      refine ⟨by rw [jn_in (by omega) (by omega)]; omega, sm_Sm_mono (c_rewriteLine h1' (i := (i : Int)) (by omega) (hk i (by omega)) (by rw [ew]; omega) (by omega)) (fun o M2 h' => ?_)⟩
      obtain ⟨rfl, h3, h4⟩ := h'
      rw [ew] at h3
      show sm_Go g 47 _ 7 _ _ _
      rw [jn_add, show (i : Int) + 1 = ((i + 1 : Nat) : Int) by omega]
      refine ih (i + 1) M2 (by omega) h3 (fun t ht => ?_)
      rw [h4, sI_s]
      by_cases e : t = i
      · rw [e, pk_us]
      · rw [pk_un e]; exact h2 t (by omega)
  refine sm_entry (Nat.le_of_ble_eq_true rfl) (Nat.le_of_ble_eq_true rfl) ?_
  refine k47_0 (fun _ _ _ _ h => h) (loop1 n 0 _ (by omega) ⟨?_, fun i hi => absurd hi (by show ¬ i < 0; omega), ?_, fun p p1 p2 p3 p4 => ?_, fun t ht => ?_, rfl⟩ (fun t ht => absurd ht (by omega)))
  · rw [sI_s, pk_us]; rfl
  · rw [sI_1 (by decide)]; exact hV
  · rw [sI_1 p3]
  · rw [sI_1 (by decide)]
/-- a code copied -/
theorem c_copyFrom {c d : Nat} (hc : (c = 23 ∧ d = 1) ∨ (c = 23 ∧ d = 25) ∨ (c = 3 ∧ d = 23)) : sm_Sm g 13 [.ref c, .ref d] M (fun o M' => o = none ∧ M'.1 c 1 = M.1 d 1 ∧ (∀ i j : Int, 0 ≤ i ∧ i < 48 → 0 ≤ j ∧ j < 5 → cd_l M' c i j = cd_l M d i j) ∧ (∀ p, p ≠ c → p ≠ c + 1 → M'.1 p = M.1 p) ∧ M'.2 = M.2) := by
  refine sm_entry (Nat.le_of_ble_eq_true rfl) (Nat.le_of_ble_eq_true rfl) ?_
  refine k13_0 hc (fun _ _ _ _ h => h) ⟨⟨by decide, by decide, by decide, by decide, by decide⟩, rfl, ?_, fun i j hi hj => ?_, fun p p1 p2 => ?_, rfl⟩
  · rw [sI_s, pk_us]
  · unfold cd_l
    rw [sI_1 (by omega), cI_s]
    congr 1
    show (if _ ∧ _ then _ else _) = _
    have e1 : (Int32.ofInt 0).toNatClampNeg = 0 := rfl
    have e2 : (Int32.ofInt ((240 : Nat) : Int)).toNatClampNeg = 240 := rfl
    rw [e1, e2, if_pos (by omega), Nat.zero_add, Nat.sub_zero]
  · rw [sI_1 p1, cI_1 p2]
end
