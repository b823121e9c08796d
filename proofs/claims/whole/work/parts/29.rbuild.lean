-- the reference's buildGroups
def rb_is (M0 M : sm_M) (C : Nat → Nat) (N : Nat → Nat → Bool) : Prop :=
  (∀ v, v < 60 → M.1 44 v = sm_z (decide (0 < C v))) ∧ (∀ v, v < 60 → M.1 45 v = Int32.ofInt v) ∧ (∀ v, v < 60 → M.1 46 v = Int32.ofInt (C v)) ∧ (∀ u, u < 60 → ∀ v, v < 60 → M.1 43 (60 * u + v) = sm_z (N u v)) ∧ (∀ p, p ≠ 43 → p ≠ 44 → p ≠ 45 → p ≠ 46 → M.1 p = M0.1 p) ∧ M.2 = M0.2
def rb_in (M0 M : sm_M) (a t : Nat) : Prop :=
  (∀ v, v < a → M.1 44 v = Int32.ofInt 0 ∧ M.1 45 v = Int32.ofInt v ∧ M.1 46 v = Int32.ofInt 0) ∧ (∀ k, k < t → M.1 43 k = Int32.ofInt 0) ∧ (∀ p, p ≠ 43 → p ≠ 44 → p ≠ 45 → p ≠ 46 → M.1 p = M0.1 p) ∧ M.2 = M0.2
section
variable {g : sm_G} {M M0 : sm_M}
theorem rb_set {C : Nat → Nat} {N N' : Nat → Nat → Bool} (h : rb_is M0 M C N) {a b : Nat} (ha : a < 60) (hb : b < 60) (hN : ∀ u, u < 60 → ∀ v, v < 60 → N' u v = (N u v || (decide (u = a) && decide (v = b)))) : rb_is M0 (sm_sI M 43 (60 * a + b) (Int32.ofInt 1)) C N' := by
  obtain ⟨h1, h2, h3, h4, h5, h6⟩ := h
  refine ⟨fun v hv => by rw [sI_1 (by decide)]; exact h1 v hv, fun v hv => by rw [sI_1 (by decide)]; exact h2 v hv, fun v hv => by rw [sI_1 (by decide)]; exact h3 v hv, fun u hu v hv => ?_, fun p p1 p2 p3 p4 => by rw [sI_1 p1]; exact h5 p p1 p2 p3 p4, h6⟩
  rw [sI_s, hN u hu v hv]
  by_cases e : u = a ∧ v = b
  · rw [e.1, e.2, pk_us]; simp; decide
  · rw [pk_un (by omega), h4 u hu v hv, show (decide (u = a) && decide (v = b)) = false by rw [← Bool.decide_and]; exact decide_eq_false e]; simp
theorem c_stands {C C' : Nat → Nat} {N : Nat → Nat → Bool} (h : rb_is M0 M C N) {x : Int} (hx : 0 ≤ x ∧ x < 60) (hC' : ∀ v : Nat, C' v = C v + (if x = (v : Int) then 1 else 0)) : sm_Sm g 88 [.ref 35, .int (Int32.ofInt x)] M (fun o M' => o = none ∧ rb_is M0 M' C' N) := by
  have hin : vp_in (Int32.ofInt x) 60 := by rw [jn_in (by omega) (by omega)]; omega
  have hcl : (Int32.ofInt x).toNatClampNeg = x.toNat := jn_cl (by omega) (by omega)
  obtain ⟨h1, h2, h3, h4, h5, h6⟩ := h
  have ex : ((x.toNat : Nat) : Int) = x := by omega
  refine sm_entry (Nat.le_of_ble_eq_true rfl) (Nat.le_of_ble_eq_true rfl) ?_
  refine k88_0 (fun _ _ _ _ h => h) ?_
  rw [hcl]
  refine ⟨Or.inr rfl, hin, hin, hin, rfl, fun v hv => ?_, fun v hv => ?_, fun v hv => ?_, fun u hu v hv => ?_, fun p p1 p2 p3 p4 => ?_, h6⟩
  · rw [sI_1 (by decide), sI_s]
    by_cases e : v = x.toNat
    · rw [e, pk_us, hC', ex, if_pos rfl, decide_eq_true (by omega)]; decide
    · rw [pk_un e, h1 v hv, hC', if_neg (by omega)]; rfl
  · rw [sI_1 (by decide), sI_1 (by decide)]; exact h2 v hv
  · rw [sI_s]
    by_cases e : v = x.toNat
    · rw [e, pk_us, hC', ex, if_pos rfl, h3 _ (by omega), jn_add]; congr 1
    · rw [pk_un e, sI_1 (by decide), h3 v hv, hC', if_neg (by omega)]; rfl
  · rw [sI_1 (by decide), sI_1 (by decide)]; exact h4 u hu v hv
  · rw [sI_1 p4, sI_1 p2]; exact h5 p p1 p2 p3 p4
theorem pf_hv1 {o : Int} (h : 0 ≤ o ∧ o ≤ 9) : pf_hv o 1 = pf_rD o := by
  unfold pf_hv pf_rD
  have h3 : o = 0 ∨ o = 1 ∨ o = 2 ∨ o = 3 ∨ o = 4 ∨ o = 5 ∨ o = 6 ∨ o = 7 ∨ o = 8 ∨ o = 9 := by omega
  rcases h3 with rfl | rfl | rfl | rfl | rfl | rfl | rfl | rfl | rfl | rfl <;> decide
theorem c_buildGroups {n : Nat} (hn : M0.1 35 7 = Int32.ofInt (n : Int)) (hn2 : n ≤ 48) (hl : ∀ i : Int, 0 ≤ i → i < (n : Int) → lv_ok (rf_L M0 16 i)) {H : Nat → Nat → Bool} (hH : ∀ i v, i < n → v < 60 → M0.1 42 (60 * i + v) = sm_z (H i v)) :
    sm_Sm g 89 [.ref 35] M0 (fun o M' => o = none ∧ rb_is M0 M' (gr_c (rf_L M0 16) n) (gr_N (rf_L M0 16) H n)) := by
  generalize hQ : (fun (o : Option Value) (M' : sm_M) => o = none ∧ rb_is M0 M' (gr_c (rf_L M0 16) n) (gr_N (rf_L M0 16) H n)) = Q
  -- the lines
  have lines : ∀ (d i : Nat) (M : sm_M), i + d = n → rb_is M0 M (gr_c (rf_L M0 16) i) (gr_N (rf_L M0 16) H i) → sm_Go g 89 (sm_Fn g Q) 63 [.ref 35, .int (Int32.ofInt (i : Int)), .null, .null, .null, .null] [] M := by
    intro d
    induction d with
    | zero =>
      intro i M hi hM
      have ei : i = n := by omega
      subst ei
      refine k89_63 (fun _ _ _ _ h => h) ⟨fun _ => ?_, fun q => absurd ?_ q⟩
      · rw [← hQ]; exact ⟨rfl, hM⟩
      · rw [hM.2.2.2.2.1 35 (by decide) (by decide) (by decide) (by decide), hn, jn_le (by omega) (by omega) (by omega) (by omega)]; omega
    | succ d ih =>
      intro i M hi hM
      have hl0 := hl i (by omega) (by omega)
      obtain ⟨⟨o0, o9⟩, wd, wa, wb, -, -⟩ := id hl0
      have r1 : ∀ j : Nat, -2147483648 ≤ rf_L M0 16 i j ∧ rf_L M0 16 i j < 2147483648 := fun j => ⟨(M0.1 _ _).le_toInt, (M0.1 _ _).toInt_lt⟩
      have r11 := r1 1
      have r12 := r1 2
      have r13 := r1 3
      have ea : ∀ (M : sm_M) (C : Nat → Nat) (N : Nat → Nat → Bool), rb_is M0 M C N → M.1 36 (16 + (i : Int)).toNat = Int32.ofInt (rf_L M0 16 i 0) ∧ M.1 37 (16 + (i : Int)).toNat = Int32.ofInt (rf_L M0 16 i 1) ∧ M.1 38 (16 + (i : Int)).toNat = Int32.ofInt (rf_L M0 16 i 2) ∧ M.1 39 (16 + (i : Int)).toNat = Int32.ofInt (rf_L M0 16 i 3) ∧ M.1 42 = M0.1 42 := fun M C N h => by
        have h5 := h.2.2.2.2.1
        rw [h5 36 (by decide) (by decide) (by decide) (by decide), h5 37 (by decide) (by decide) (by decide) (by decide), h5 38 (by decide) (by decide) (by decide) (by decide), h5 39 (by decide) (by decide) (by decide) (by decide)]
        exact ⟨rf_at M0 (16 + i) 0, rf_at M0 (16 + i) 1, rf_at M0 (16 + i) 2, rf_at M0 (16 + i) 3, h5 42 (by decide) (by decide) (by decide) (by decide)⟩
      generalize hL0 : rf_L M0 16 i 0 = l0 at *
      generalize hL1 : rf_L M0 16 i 1 = l1 at *
      generalize hL2 : rf_L M0 16 i 2 = l2 at *
      generalize hL3 : rf_L M0 16 i 3 = l3 at *
      have hin2 : vp_in (Int32.ofInt (16 + (i : Int))) 112 := by rw [jn_in (by omega) (by omega)]; omega
      have hcl2 : (Int32.ofInt (16 + (i : Int))).toNatClampNeg = (16 + (i : Int)).toNat := jn_cl (by omega) (by omega)
      have e0 : (Int32.ofInt l0).toInt = l0 := jn_to (by omega) (by omega)
      -- on to the next line
      have nx : ∀ (M : sm_M) (x4 : Int32), rb_is M0 M (gr_c (rf_L M0 16) (i + 1)) (gr_N (rf_L M0 16) H (i + 1)) → sm_Go g 89 (sm_Fn g Q) 244 [.ref 35, .int (Int32.ofInt (i : Int)), .int (Int32.ofInt l0), .int (Int32.ofInt l1), .int x4, .null] [] M := by
        intro M x4 h
        refine k89_244 (fun _ _ _ _ h => h) ?_
        rw [jn_add, show (i : Int) + 1 = ((i + 1 : Nat) : Int) by omega]
        exact sm_wk (L := [.ref 35, .int (Int32.ofInt ((i + 1 : Nat) : Int)), .null, .null, .null, .null]) ⟨rfl, rfl, trivial⟩ (ih (i + 1) M (by omega) h)
      -- the values
      have vals : ∀ (dd w : Nat) (M : sm_M), w + dd = 60 → rb_is M0 M (gr_c (rf_L M0 16) (i + 1)) (fun u v => gr_N (rf_L M0 16) H i u v || (pf_dv l0 && ((decide (l1 = (u : Int)) && (decide (v < w) && gr_o (rf_L M0 16 i) (H i) v)) || (decide (l1 = (v : Int)) && (decide (u < w) && gr_o (rf_L M0 16 i) (H i) u))))) → sm_Go g 89 (sm_Fn g Q) 146 [.ref 35, .int (Int32.ofInt (i : Int)), .int (Int32.ofInt l0), .int (Int32.ofInt l1), .int (Int32.ofInt (w : Int)), .null] [] M := by
        intro dd
        induction dd with
        | zero =>
          intro w M hw hM
          refine k89_146 (fun _ _ _ _ h => h) ⟨fun _ => nx M _ ?_, fun q => absurd ?_ q⟩
          · refine ⟨hM.1, hM.2.1, hM.2.2.1, fun u hu v hv => ?_, hM.2.2.2.2⟩
            rw [hM.2.2.2.1 u hu v hv, gr_N, gr_x, hL0, hL1]
            try dsimp only
            rw [decide_eq_true (show u < w by omega), decide_eq_true (show v < w by omega)]
            simp
          · rw [jn_le (by omega) (by omega) (by omega) (by omega)]; omega
        | succ dd ihd =>
          intro w M hw hM
          obtain ⟨-, -, a2, -, a42⟩ := ea M _ _ hM
          refine k89_146 (fun _ _ _ _ h => h) ⟨fun q => ?_, fun _ => ?_⟩
          · rw [jn_le (by omega) (by omega) (by omega) (by omega)] at q; omega
          · rw [e0, sm_z0]
            refine ⟨fun z => nx M _ ?_, fun z => ?_⟩
            · refine ⟨hM.1, hM.2.1, hM.2.2.1, fun u hu v hv => ?_, hM.2.2.2.2⟩
              rw [hM.2.2.2.1 u hu v hv, gr_N, gr_x, hL0, z]
              try dsimp only
              simp
            · have z' : pf_dv l0 = true := by simpa using z
              have hd := wd (by unfold pf_dv at z'; unfold pf_hv; simp at z' ⊢; omega)
              generalize hdn : l1.toNat = dn at *
              have hdi : l1 = (dn : Int) := by omega
              have ed : ∀ u : Nat, decide (l1 = (u : Int)) = decide (u = dn) := fun u => by rw [hdi]; by_cases e : u = dn <;> simp [e]; omega
              have fin : ∀ (s0 : Int32), s0 = sm_z (gr_o (rf_L M0 16 i) (H i) w) → sm_Go g 89 (sm_Fn g Q) 205 [.ref 35, .int (Int32.ofInt (i : Int)), .int (Int32.ofInt l0), .int (Int32.ofInt l1), .int (Int32.ofInt (w : Int)), .null] [.int s0] M := by
                intro s0 hs0
                have k238 : ∀ M' : sm_M, rb_is M0 M' (gr_c (rf_L M0 16) (i + 1)) (fun u v => gr_N (rf_L M0 16) H i u v || (pf_dv l0 && ((decide (l1 = (u : Int)) && (decide (v < w + 1) && gr_o (rf_L M0 16 i) (H i) v)) || (decide (l1 = (v : Int)) && (decide (u < w + 1) && gr_o (rf_L M0 16 i) (H i) u))))) → sm_Go g 89 (sm_Fn g Q) 238 [.ref 35, .int (Int32.ofInt (i : Int)), .int (Int32.ofInt l0), .int (Int32.ofInt l1), .int (Int32.ofInt (w : Int)), .int s0] [] M' := by
                  intro M' h'
                  refine k89_238 (fun _ _ _ _ h => h) ?_
                  rw [jn_add, show (w : Int) + 1 = ((w + 1 : Nat) : Int) by omega]
                  exact sm_wk (L := [.ref 35, .int (Int32.ofInt (i : Int)), .int (Int32.ofInt l0), .int (Int32.ofInt l1), .int (Int32.ofInt ((w + 1 : Nat) : Int)), .null]) ⟨rfl, rfl, rfl, rfl, rfl, trivial⟩ (ihd (w + 1) M' (by omega) h')
                have lt1 : ∀ u : Nat, decide (u < w + 1) = (decide (u < w) || decide (u = w)) := fun u => by by_cases e : u < w <;> by_cases e2 : u = w <;> simp [e, e2] <;> omega
                refine k89_205 (fun _ _ _ _ h => h) ⟨fun q => k238 M ?_, fun q => ?_⟩
                · rw [hs0, sm_z0] at q
                  refine ⟨hM.1, hM.2.1, hM.2.2.1, fun u hu v hv => ?_, hM.2.2.2.2⟩
                  rw [hM.2.2.2.1 u hu v hv]
                  have ez : ∀ u : Nat, (decide (u < w + 1) && gr_o (rf_L M0 16 i) (H i) u) = (decide (u < w) && gr_o (rf_L M0 16 i) (H i) u) := fun u => by
                    rw [lt1]
                    by_cases e : u = w
                    · subst e; rw [q]; simp
                    · simp [e]
                  try dsimp only
                  rw [ez, ez]
                · rw [hs0, sm_z0, Bool.not_eq_false] at q
                  rw [hdi, jn_mul, jn_mul, jn_add, jn_add, jn_cl (by omega) (by omega), jn_cl (by omega) (by omega)]
                  refine ⟨Or.inr rfl, by rw [jn_in (by omega) (by omega)]; omega, Or.inr rfl, by rw [jn_in (by omega) (by omega)]; omega, ?_⟩
                  rw [show (60 * (dn : Int) + (w : Int)).toNat = 60 * dn + w by omega, show (60 * (w : Int) + (dn : Int)).toNat = 60 * w + dn by omega, ← hdi]
                  refine k238 _ (rb_set (rb_set (N' := fun u v => (gr_N (rf_L M0 16) H i u v || (pf_dv l0 && ((decide (l1 = (u : Int)) && (decide (v < w) && gr_o (rf_L M0 16 i) (H i) v)) || (decide (l1 = (v : Int)) && (decide (u < w) && gr_o (rf_L M0 16 i) (H i) u))))) || (decide (u = dn) && decide (v = w))) hM (by omega) (by omega) (fun u hu v hv => rfl)) (by omega) (by omega) (fun u hu v hv => ?_))
                  have ez : ∀ u : Nat, (decide (u < w + 1) && gr_o (rf_L M0 16 i) (H i) u) = ((decide (u < w) && gr_o (rf_L M0 16 i) (H i) u) || decide (u = w)) := fun u => by
                    rw [lt1]
                    by_cases e : u = w
                    · subst e; rw [q]; simp
                    · simp [e]
                  try dsimp only
                  rw [ez, ez, z', ed, ed]
                  cases gr_N (rf_L M0 16) H i u v <;> cases decide (u = dn) <;> cases decide (v = dn) <;> cases decide (u = w) <;> cases decide (v = w) <;> cases (decide (v < w) && gr_o (rf_L M0 16 i) (H i) v) <;> cases (decide (u < w) && gr_o (rf_L M0 16 i) (H i) u) <;> rfl
              have hHw := hH i w (by omega) (by omega)
              have f0 : gr_o (rf_L M0 16 i) (H i) w = false → sm_Go g 89 (sm_Fn g Q) 204 [.ref 35, .int (Int32.ofInt (i : Int)), .int (Int32.ofInt l0), .int (Int32.ofInt l1), .int (Int32.ofInt (w : Int)), .null] [] M := fun z => k89_204 (fun _ _ _ _ h => h) (fin _ (by rw [z]; exact sm_o0))
              have f1 : gr_o (rf_L M0 16 i) (H i) w = true → sm_Go g 89 (sm_Fn g Q) 200 [.ref 35, .int (Int32.ofInt (i : Int)), .int (Int32.ofInt l0), .int (Int32.ofInt l1), .int (Int32.ofInt (w : Int)), .null] [] M := fun z => k89_200 (fun _ _ _ _ h => h) (fin _ (by rw [z]; exact sm_o1))
              rw [jn_mul, jn_add, jn_add, jn_cl (by omega) (by omega), hcl2, a2, a42, show (60 * (i : Int) + (w : Int)).toNat = 60 * i + w by omega, hHw, sm_z0, jn_eq (by omega) (by omega) (by omega) (by omega), jn_eq (by omega) (by omega) (by omega) (by omega), jn_eq (by omega) (by omega) (by omega) (by omega)]
              refine ⟨fun q => f0 ?_, fun q => ⟨by rw [jn_in (by omega) (by omega)]; omega, fun q2 => f0 ?_, fun q2 => ⟨fun q3 => f1 ?_, fun q3 => ⟨hin2, fun q4 => f0 ?_, fun q4 => f1 ?_⟩⟩⟩⟩ <;> rw [gr_o, hL0, hL1, hL2]
              · rw [decide_eq_true q.symm]; simp
              · rw [q2]; simp
              · rw [Bool.not_eq_false] at q2
                rw [q2, decide_eq_false (fun y => q y.symm), decide_eq_false q3]; rfl
              · rw [decide_eq_true q3, decide_eq_true q4]; simp
              · rw [Bool.not_eq_false] at q2
                rw [q2, decide_eq_false (fun y => q y.symm), decide_eq_false q4]; simp
      have h143 : ∀ (M : sm_M), rb_is M0 M (gr_c (rf_L M0 16) (i + 1)) (gr_N (rf_L M0 16) H i) → sm_Go g 89 (sm_Fn g Q) 143 [.ref 35, .int (Int32.ofInt (i : Int)), .int (Int32.ofInt l0), .int (Int32.ofInt l1), .null, .null] [] M := by
        intro M h
        refine k89_143 (fun _ _ _ _ h => h) (vals 60 0 M (by omega) ⟨h.1, h.2.1, h.2.2.1, fun u hu v hv => ?_, h.2.2.2.2⟩)
        rw [h.2.2.2.1 u hu v hv]
        simp
      have h123 : ∀ (M : sm_M), rb_is M0 M (fun v => gr_c (rf_L M0 16) i v + gr_1 (rf_L M0 16 i) 1 v + gr_1 (rf_L M0 16 i) 2 v) (gr_N (rf_L M0 16) H i) → sm_Go g 89 (sm_Fn g Q) 123 [.ref 35, .int (Int32.ofInt (i : Int)), .int (Int32.ofInt l0), .int (Int32.ofInt l1), .null, .null] [] M := by
        intro M h
        obtain ⟨-, -, -, a3, -⟩ := ea M _ _ h
        have ec : ∀ v, gr_c (rf_L M0 16) (i + 1) v = gr_c (rf_L M0 16) i v + gr_1 (rf_L M0 16 i) 1 v + gr_1 (rf_L M0 16 i) 2 v + gr_1 (rf_L M0 16 i) 3 v := fun v => by rw [gr_c]; omega
        refine k89_123 (fun _ _ _ _ h => h) ?_
        rw [e0, jn_add, hcl2, a3, sm_z0, ← pf_hv3]
        refine ⟨fun q => h143 M ?_, fun q => ⟨hin2, ?_⟩⟩
        · have : gr_c (rf_L M0 16) (i + 1) = (fun v => gr_c (rf_L M0 16) i v + gr_1 (rf_L M0 16 i) 1 v + gr_1 (rf_L M0 16 i) 2 v) := by
            funext v; rw [ec, show gr_1 (rf_L M0 16 i) 3 v = 0 by rw [gr_1, hL0, q, if_neg (by simp)]]; rfl
          rw [this]; exact h
        · rw [Bool.not_eq_false] at q
          refine sm_Sm_mono (c_stands (C' := gr_c (rf_L M0 16) (i + 1)) h (wb q) (fun v => ?_)) (fun o M' h' => ?_)
          · rw [ec, show gr_1 (rf_L M0 16 i) 3 v = (if l3 = (v : Int) then 1 else 0) by rw [gr_1, hL0, hL3, q]; simp]
          · obtain ⟨rfl, h'⟩ := h'
            exact h143 M' h'
      have h103 : ∀ (M : sm_M), rb_is M0 M (fun v => gr_c (rf_L M0 16) i v + gr_1 (rf_L M0 16 i) 1 v) (gr_N (rf_L M0 16) H i) → sm_Go g 89 (sm_Fn g Q) 103 [.ref 35, .int (Int32.ofInt (i : Int)), .int (Int32.ofInt l0), .int (Int32.ofInt l1), .null, .null] [] M := by
        intro M h
        obtain ⟨-, -, a2, -, -⟩ := ea M _ _ h
        refine k89_103 (fun _ _ _ _ h => h) ?_
        rw [e0, jn_add, hcl2, a2, sm_z0, ← pf_hv2]
        refine ⟨fun q => h123 M ?_, fun q => ⟨hin2, ?_⟩⟩
        · have : (fun v => gr_c (rf_L M0 16) i v + gr_1 (rf_L M0 16 i) 1 v + gr_1 (rf_L M0 16 i) 2 v) = (fun v => gr_c (rf_L M0 16) i v + gr_1 (rf_L M0 16 i) 1 v) := by
            funext v; rw [show gr_1 (rf_L M0 16 i) 2 v = 0 by rw [gr_1, hL0, q, if_neg (by simp)]]; rfl
          rw [this]; exact h
        · rw [Bool.not_eq_false] at q
          refine sm_Sm_mono (c_stands (C' := fun v => gr_c (rf_L M0 16) i v + gr_1 (rf_L M0 16 i) 1 v + gr_1 (rf_L M0 16 i) 2 v) h (wa q) (fun v => ?_)) (fun o M' h' => ?_)
          · try dsimp only
            rw [show gr_1 (rf_L M0 16 i) 2 v = (if l2 = (v : Int) then 1 else 0) by rw [gr_1, hL0, hL2, q]; simp]
          · obtain ⟨rfl, h'⟩ := h'
            exact h123 M' h'
      obtain ⟨a0, a1, -, -, -⟩ := ea M _ _ hM
      refine k89_63 (fun _ _ _ _ h => h) ⟨fun q => ?_, fun _ => ?_⟩
      · rw [hM.2.2.2.2.1 35 (by decide) (by decide) (by decide) (by decide), hn, jn_le (by omega) (by omega) (by omega) (by omega)] at q; omega
      · rw [jn_add, hcl2, a0, a1, e0, sm_z0, ← pf_hv1 ⟨o0, o9⟩]
        refine ⟨hin2, hin2, fun q => h103 M ?_, fun q => ?_⟩
        · have : (fun v => gr_c (rf_L M0 16) i v + gr_1 (rf_L M0 16 i) 1 v) = gr_c (rf_L M0 16) i := by
            funext v; rw [show gr_1 (rf_L M0 16 i) 1 v = 0 by rw [gr_1, hL0, q, if_neg (by simp)]]; rfl
          rw [this]; exact hM
        · rw [Bool.not_eq_false] at q
          refine sm_Sm_mono (c_stands (C' := fun v => gr_c (rf_L M0 16) i v + gr_1 (rf_L M0 16 i) 1 v) hM (wd q) (fun v => ?_)) (fun o M' h' => ?_)
          · try dsimp only
            rw [show gr_1 (rf_L M0 16 i) 1 v = (if l1 = (v : Int) then 1 else 0) by rw [gr_1, hL0, hL1, q]; simp]
          · obtain ⟨rfl, h'⟩ := h'
            exact h103 M' h'
  -- all empty
  have init : ∀ (d u : Nat) (M : sm_M), u + d = 60 → rb_in M0 M u (60 * u) → sm_Go g 89 (sm_Fn g Q) 2 [.ref 35, .int (Int32.ofInt (u : Int)), .null, .null, .null, .null] [] M := by
    intro d
    induction d with
    | zero =>
      intro u M hu hM
      refine k89_2 (fun _ _ _ _ h => h) ⟨fun _ => ?_, fun q => absurd ?_ q⟩
      · refine lines n 0 M (by omega) ⟨fun v hv => ?_, fun v hv => ?_, fun v hv => ?_, fun a ha v hv => ?_, hM.2.2.1, hM.2.2.2⟩
        · rw [(hM.1 v (by omega)).1]; rfl
        · exact (hM.1 v (by omega)).2.1
        · rw [(hM.1 v (by omega)).2.2]; rfl
        · rw [hM.2.1 _ (by omega)]; rfl
      · rw [jn_le (by omega) (by omega) (by omega) (by omega)]; omega
    | succ d ih =>
      intro u M hu hM
      have row : ∀ (dd w : Nat) (M : sm_M), w + dd = 60 → rb_in M0 M (u + 1) (60 * u + w) → sm_Go g 89 (sm_Fn g Q) 31 [.ref 35, .int (Int32.ofInt (u : Int)), .int (Int32.ofInt (w : Int)), .null, .null, .null] [] M := by
        intro dd
        induction dd with
        | zero =>
          intro w M hw h
          refine k89_31 (fun _ _ _ _ h => h) ⟨fun _ => ?_, fun q => absurd ?_ q⟩
          · rw [jn_add, show (u : Int) + 1 = ((u + 1 : Nat) : Int) by omega]
            rw [show 60 * u + w = 60 * (u + 1) by omega] at h
            exact sm_wk (L := [.ref 35, .int (Int32.ofInt ((u + 1 : Nat) : Int)), .null, .null, .null, .null]) ⟨rfl, rfl, trivial⟩ (ih (u + 1) M (by omega) h)
          · rw [jn_le (by omega) (by omega) (by omega) (by omega)]; omega
        | succ dd ihd =>
          intro w M hw h
          refine k89_31 (fun _ _ _ _ h => h) ⟨fun q => ?_, fun _ => ?_⟩
          · rw [jn_le (by omega) (by omega) (by omega) (by omega)] at q; omega
          · rw [jn_mul, jn_add, jn_add, jn_cl (by omega) (by omega), show (60 * (u : Int) + (w : Int)).toNat = 60 * u + w by omega, show (w : Int) + 1 = ((w + 1 : Nat) : Int) by omega]
            refine ⟨Or.inl rfl, by rw [jn_in (by omega) (by omega)]; omega, ihd (w + 1) _ (by omega) ⟨fun v hv => ?_, fun k hk => ?_, fun p p1 p2 p3 p4 => ?_, h.2.2.2⟩⟩
            · rw [sI_1 (by decide), sI_1 (by decide), sI_1 (by decide)]; exact h.1 v hv
            · rw [sI_s]
              by_cases e : k = 60 * u + w
              · rw [e, pk_us]
              · rw [pk_un e]; exact h.2.1 k (by omega)
            · rw [sI_1 p1]; exact h.2.2.1 p p1 p2 p3 p4
      have hin : vp_in (Int32.ofInt (u : Int)) 60 := by rw [jn_in (by omega) (by omega)]; omega
      refine k89_2 (fun _ _ _ _ h => h) ⟨fun q => ?_, fun _ => ?_⟩
      · rw [jn_le (by omega) (by omega) (by omega) (by omega)] at q; omega
      · rw [jn_cl (by omega) (by omega), show ((u : Int)).toNat = u by omega]
        refine ⟨Or.inl rfl, hin, hin, hin, row 60 0 _ (by omega) ⟨fun v hv => ?_, fun k hk => ?_, fun p p1 p2 p3 p4 => ?_, hM.2.2.2⟩⟩
        · rw [sI_1 (show 44 ≠ 46 by decide), sI_1 (show 44 ≠ 45 by decide), sI_s, sI_1 (show 45 ≠ 46 by decide), sI_s, sI_1 (show 45 ≠ 44 by decide), sI_s, sI_1 (show 46 ≠ 45 by decide), sI_1 (show 46 ≠ 44 by decide)]
          by_cases e : v = u
          · rw [e, pk_us, pk_us, pk_us]; exact ⟨rfl, rfl, rfl⟩
          · rw [pk_un e, pk_un e, pk_un e]; exact hM.1 v (by omega)
        · rw [sI_1 (by decide), sI_1 (by decide), sI_1 (by decide)]; exact hM.2.1 k (by omega)
        · rw [sI_1 p4, sI_1 p3, sI_1 p2]; exact hM.2.2.1 p p1 p2 p3 p4
  refine sm_entry (Nat.le_of_ble_eq_true rfl) (Nat.le_of_ble_eq_true rfl) ?_
  exact k89_0 (fun _ _ _ _ h => h) (init 60 0 M0 (by omega) ⟨fun v hv => by omega, fun k hk => by omega, fun _ _ _ _ _ => rfl, rfl⟩)
end
